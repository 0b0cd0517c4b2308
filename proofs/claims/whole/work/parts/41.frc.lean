def SX7_append : List (Nat × Nat) := [(1, 2)]
theorem frX7_append_40 {r3 : Int32 → Int32 → PS → Option (PS)} (hr_3 : ∀ (x1 : Int32) (x2 : Int32) (σ : PS) (r : PS), r3 x1 x2 σ = some r → FRM SX7_append σ r) (x1 : Int32) (x2 : Int32) (σ : PS) (r : PS) (h : fX7_append_40 r3 x1 x2 σ = some r) : FRM SX7_append σ r := by
  unfold fX7_append_40 at h
  exact FRM.tr FRM.rf (hr_3 x1 (x2 + (-8)) σ _ h)
theorem frX7_append_3 : ∀ (n : Nat) (x1 : Int32) (x2 : Int32) (σ : PS) (r : PS), fX7_append_3 n x1 x2 σ = some r → FRM SX7_append σ r := by
  intro n
  induction n with
  | zero =>
    intro x1 x2 σ r h
    rw [fX7_append_3] at h
    cases h
  | succ n ih =>
    intro x1 x2 σ r h
    rw [fX7_append_3] at h
    rcases ite_some h with ⟨hc, h⟩ | ⟨hc, h⟩
    · cases h
      exact FRM.rf
    · rcases ite_some h with ⟨hc, h⟩ | ⟨hc, h⟩
      · exact FRM.tr FRM.rf (frX7_append_40 ih x1 x2 σ _ h)
      · obtain ⟨hi1, h⟩ := gd_some h
        exact FRM.tr (FRM.i (FRM.i FRM.rf (by decide)) (by decide)) (frX7_append_40 ih x1 x2 (sI (sI σ 2 ((gi σ 1 1) : Int32).toNatClampNeg (vp_nar .byte (((x1 : Int32).toUInt32 >>> ((x2 : Int32).toUInt32 &&& Int32.toUInt32 31)).toInt32 : Int32).toInt8.toInt32)) 1 1 ((gi (sI σ 2 ((gi σ 1 1) : Int32).toNatClampNeg (vp_nar .byte (((x1 : Int32).toUInt32 >>> ((x2 : Int32).toUInt32 &&& Int32.toUInt32 31)).toInt32 : Int32).toInt8.toInt32)) 1 1) + 1)) _ h)
theorem frX7_append (a1 : Int32) (σ : PS) (r : PS) (h : fX7_append a1 σ = some r) : FRM SX7_append σ r := by
  unfold fX7_append at h
  exact FRM.tr FRM.rf (frX7_append_3 FU a1 24 σ _ h)

def SX8_feed : List (Nat × Nat) := [(1, 2)]
theorem frX8_feed (a1 : Int32) (a2 : Int32) (a3 : Int32) (a4 : Int32) (a5 : Int32) (σ : PS) (r : Int32 × PS) (h : fX8_feed a1 a2 a3 a4 a5 σ = some r) : FRM SX8_feed σ r.2 := by
  unfold fX8_feed at h
  rcases ite_some h with ⟨hc, h⟩ | ⟨hc, h⟩
  · obtain ⟨q1, e2, h⟩ := bind_some h
    try dsimp only at h
    have g3 := frX7_append _ _ _ e2
    obtain ⟨q4, e5, h⟩ := bind_some h
    try dsimp only at h
    have g6 := frX7_append _ _ _ e5
    obtain ⟨q7, e8, h⟩ := bind_some h
    try dsimp only at h
    have g9 := frX7_append _ _ _ e8
    obtain ⟨q10, e11, h⟩ := bind_some h
    try dsimp only at h
    have g12 := frX7_append _ _ _ e11
    obtain ⟨q13, e14, h⟩ := bind_some h
    try dsimp only at h
    have g15 := frX7_append _ _ _ e14
    cases h
    exact (FRM.tr (FRM.tr (FRM.tr (FRM.tr (FRM.tr FRM.rf (FRM.mono g3 (by decide))) (FRM.mono g6 (by decide))) (FRM.mono g9 (by decide))) (FRM.mono g12 (by decide))) (FRM.mono g15 (by decide)))
  · cases h
    exact FRM.rf

def SX8_isWithin : List (Nat × Nat) := []
theorem frX8_isWithin (a0 : Int32) (a1 : Int32) (a2 : Int32) (σ : PS) (r : Int32 × PS) (h : fX8_isWithin a0 a1 a2 σ = some r) : FRM SX8_isWithin σ r.2 := by
  unfold fX8_isWithin at h
  rcases ite_some h with ⟨hc, h⟩ | ⟨hc, h⟩
  · cases h
    exact FRM.rf
  · rcases ite_some h with ⟨hc, h⟩ | ⟨hc, h⟩
    · cases h
      exact FRM.rf
    · cases h
      exact FRM.rf

def SX8_back : List (Nat × Nat) := [(1, 1)]
theorem frX8_back (a1 : Int32) (σ : PS) (r : Int32 × PS) (h : fX8_back a1 σ = some r) : FRM SX8_back σ r.2 := by
  unfold fX8_back at h
  obtain ⟨q1, e2, h⟩ := bind_some h
  try dsimp only at h
  have g3 := frX8_isWithin _ _ _ _ _ e2
  rcases ite_some h with ⟨hc, h⟩ | ⟨hc, h⟩
  · cases h
    exact (FRM.tr FRM.rf (FRM.mono g3 (by decide)))
  · cases h
    exact (FRM.i (FRM.tr FRM.rf (FRM.mono g3 (by decide))) (by decide))

def SX1_forget : List (Nat × Nat) := [(41, 41)]
theorem frX1_forget  (σ : PS) (r : PS) (h : fX1_forget  σ = some r) : FRM SX1_forget σ r := by
  unfold fX1_forget at h
  cases h
  exact (FRM.i FRM.rf (by decide))

def SX5_clear : List (Nat × Nat) := [(116, 116), (124, 124)]
theorem frX5_clear {b : Nat} (hb : isBk b = true)  (σ : PS) (r : PS) (h : fX5_clear b  σ = some r) : FRM SX5_clear σ r := by
  unfold fX5_clear at h
  cases h
  exact (FRM.i (FRM.i FRM.rf (inS_bk0 hb (by decide) (by decide))) (inS_bk0 hb (by decide) (by decide)))

def SX6_rewind : List (Nat × Nat) := [(40, 40)]
theorem frX6_rewind  (σ : PS) (r : PS) (h : fX6_rewind  σ = some r) : FRM SX6_rewind σ r := by
  unfold fX6_rewind at h
  cases h
  exact (FRM.i FRM.rf (by decide))

def SX4_begin : List (Nat × Nat) := [(38, 38), (40, 40), (116, 116), (124, 124)]
theorem frX4_begin {b : Nat} (hb : isBk b = true)  (σ : PS) (r : PS) (h : fX4_begin b  σ = some r) : FRM SX4_begin σ r := by
  unfold fX4_begin at h
  obtain ⟨q1, e2, h⟩ := bind_some h
  try dsimp only at h
  have g3 := frX6_rewind _ _ e2
  obtain ⟨q4, e5, h⟩ := bind_some h
  try dsimp only at h
  have g6 := frX5_clear hb _ _ e5
  cases h
  exact (FRM.i (FRM.i (FRM.i (FRM.i (FRM.i (FRM.i (FRM.i (FRM.tr (FRM.tr FRM.rf (FRM.mono g3 (by decide))) (FRM.mono g6 (by decide))) (by decide)) (by decide)) (by decide)) (by decide)) (by decide)) (by decide)) (by decide))

def SX4_blame : List (Nat × Nat) := [(38, 38)]
theorem frX4_blame (a1 : Int32) (a2 : Int32) (σ : PS) (r : PS) (h : fX4_blame a1 a2 σ = some r) : FRM SX4_blame σ r := by
  unfold fX4_blame at h
  cases h
  exact (FRM.i (FRM.i FRM.rf (by decide)) (by decide))

def SX4_isTooMuch : List (Nat × Nat) := []
theorem frX4_isTooMuch {b : Nat} (hb : isBk b = true)  (σ : PS) (r : Int32 × PS) (h : fX4_isTooMuch b  σ = some r) : FRM SX4_isTooMuch σ r.2 := by
  unfold fX4_isTooMuch at h
  rcases ite_some h with ⟨hc, h⟩ | ⟨hc, h⟩
  · rcases ite_some h with ⟨hc, h⟩ | ⟨hc, h⟩
    · cases h
      exact FRM.rf
    · cases h
      exact FRM.rf
  · rcases ite_some h with ⟨hc, h⟩ | ⟨hc, h⟩
    · rcases ite_some h with ⟨hc, h⟩ | ⟨hc, h⟩
      · cases h
        exact FRM.rf
      · cases h
        exact FRM.rf
    · cases h
      exact FRM.rf

def SX4_mayFollowUnit : List (Nat × Nat) := []
theorem frX4_mayFollowUnit (a1 : Int32) (σ : PS) (r : Int32 × PS) (h : fX4_mayFollowUnit a1 σ = some r) : FRM SX4_mayFollowUnit σ r.2 := by
  unfold fX4_mayFollowUnit at h
  obtain ⟨q1, e2, h⟩ := bind_some h
  try dsimp only at h
  have g3 := frX8_isWithin _ _ _ _ _ e2
  rcases ite_some h with ⟨hc, h⟩ | ⟨hc, h⟩
  · rcases ite_some h with ⟨hc, h⟩ | ⟨hc, h⟩
    · rcases ite_some h with ⟨hc, h⟩ | ⟨hc, h⟩
      · obtain ⟨q4, e5, h⟩ := bind_some h
        try dsimp only at h
        have g6 := frX8_isWithin _ _ _ _ _ e5
        obtain ⟨-, h⟩ := gd_some h
        cases h
        exact (FRM.tr (FRM.tr FRM.rf (FRM.mono g3 (by decide))) (FRM.mono g6 (by decide)))
      · rcases ite_some h with ⟨hc, h⟩ | ⟨hc, h⟩
        · rcases ite_some h with ⟨hc, h⟩ | ⟨hc, h⟩
          · cases h
            exact (FRM.tr FRM.rf (FRM.mono g3 (by decide)))
          · rcases ite_some h with ⟨hc, h⟩ | ⟨hc, h⟩
            · cases h
              exact (FRM.tr FRM.rf (FRM.mono g3 (by decide)))
            · rcases ite_some h with ⟨hc, h⟩ | ⟨hc, h⟩
              · cases h
                exact (FRM.tr FRM.rf (FRM.mono g3 (by decide)))
              · cases h
                exact (FRM.tr FRM.rf (FRM.mono g3 (by decide)))
        · rcases ite_some h with ⟨hc, h⟩ | ⟨hc, h⟩
          · cases h
            exact (FRM.tr FRM.rf (FRM.mono g3 (by decide)))
          · rcases ite_some h with ⟨hc, h⟩ | ⟨hc, h⟩
            · cases h
              exact (FRM.tr FRM.rf (FRM.mono g3 (by decide)))
            · cases h
              exact (FRM.tr FRM.rf (FRM.mono g3 (by decide)))
    · rcases ite_some h with ⟨hc, h⟩ | ⟨hc, h⟩
      · cases h
        exact (FRM.tr FRM.rf (FRM.mono g3 (by decide)))
      · cases h
        exact (FRM.tr FRM.rf (FRM.mono g3 (by decide)))
  · cases h
    exact (FRM.tr FRM.rf (FRM.mono g3 (by decide)))

def SX4_mayFollow : List (Nat × Nat) := []
theorem frX4_mayFollow (a1 : Int32) (σ : PS) (r : Int32 × PS) (h : fX4_mayFollow a1 σ = some r) : FRM SX4_mayFollow σ r.2 := by
  unfold fX4_mayFollow at h
  rcases ite_some h with ⟨hc, h⟩ | ⟨hc, h⟩
  · rcases ite_some h with ⟨hc, h⟩ | ⟨hc, h⟩
    · cases h
      exact FRM.rf
    · obtain ⟨q1, e2, h⟩ := bind_some h
      try dsimp only at h
      have g3 := frX8_isWithin _ _ _ _ _ e2
      rcases ite_some h with ⟨hc, h⟩ | ⟨hc, h⟩
      · cases h
        exact (FRM.tr FRM.rf (FRM.mono g3 (by decide)))
      · cases h
        exact (FRM.tr FRM.rf (FRM.mono g3 (by decide)))
  rcases ite_some h with ⟨hc, h⟩ | ⟨hc, h⟩
  · rcases ite_some h with ⟨hc, h⟩ | ⟨hc, h⟩
    · cases h
      exact FRM.rf
    · cases h
      exact FRM.rf
  rcases ite_some h with ⟨hc, h⟩ | ⟨hc, h⟩
  · rcases ite_some h with ⟨hc, h⟩ | ⟨hc, h⟩
    · cases h
      exact FRM.rf
    · cases h
      exact FRM.rf
  rcases ite_some h with ⟨hc, h⟩ | ⟨hc, h⟩
  · rcases ite_some h with ⟨hc, h⟩ | ⟨hc, h⟩
    · cases h
      exact FRM.rf
    · rcases ite_some h with ⟨hc, h⟩ | ⟨hc, h⟩
      · cases h
        exact FRM.rf
      · obtain ⟨q4, e5, h⟩ := bind_some h
        try dsimp only at h
        have g6 := frX8_isWithin _ _ _ _ _ e5
        rcases ite_some h with ⟨hc, h⟩ | ⟨hc, h⟩
        · cases h
          exact (FRM.tr FRM.rf (FRM.mono g6 (by decide)))
        · cases h
          exact (FRM.tr FRM.rf (FRM.mono g6 (by decide)))
  obtain ⟨q7, e8, h⟩ := bind_some h
  try dsimp only at h
  have g9 := frX4_mayFollowUnit _ _ _ e8
  obtain ⟨-, h⟩ := gd_some h
  cases h
  exact (FRM.tr FRM.rf (FRM.mono g9 (by decide)))

def SX4_rank : List (Nat × Nat) := []
theorem frX4_rank (a0 : Int32) (σ : PS) (r : Int32 × PS) (h : fX4_rank a0 σ = some r) : FRM SX4_rank σ r.2 := by
  unfold fX4_rank at h
  rcases ite_some h with ⟨hc, h⟩ | ⟨hc, h⟩
  · cases h
    exact FRM.rf
  rcases ite_some h with ⟨hc, h⟩ | ⟨hc, h⟩
  · cases h
    exact FRM.rf
  rcases ite_some h with ⟨hc, h⟩ | ⟨hc, h⟩
  · cases h
    exact FRM.rf
  rcases ite_some h with ⟨hc, h⟩ | ⟨hc, h⟩
  · cases h
    exact FRM.rf
  rcases ite_some h with ⟨hc, h⟩ | ⟨hc, h⟩
  · cases h
    exact FRM.rf
  rcases ite_some h with ⟨hc, h⟩ | ⟨hc, h⟩
  · cases h
    exact FRM.rf
  rcases ite_some h with ⟨hc, h⟩ | ⟨hc, h⟩
  · cases h
    exact FRM.rf
  rcases ite_some h with ⟨hc, h⟩ | ⟨hc, h⟩
  · cases h
    exact FRM.rf
  rcases ite_some h with ⟨hc, h⟩ | ⟨hc, h⟩
  · cases h
    exact FRM.rf
  rcases ite_some h with ⟨hc, h⟩ | ⟨hc, h⟩
  · cases h
    exact FRM.rf
  rcases ite_some h with ⟨hc, h⟩ | ⟨hc, h⟩
  · cases h
    exact FRM.rf
  rcases ite_some h with ⟨hc, h⟩ | ⟨hc, h⟩
  · cases h
    exact FRM.rf
  rcases ite_some h with ⟨hc, h⟩ | ⟨hc, h⟩
  · cases h
    exact FRM.rf
  rcases ite_some h with ⟨hc, h⟩ | ⟨hc, h⟩
  · cases h
    exact FRM.rf
  rcases ite_some h with ⟨hc, h⟩ | ⟨hc, h⟩
  · cases h
    exact FRM.rf
  rcases ite_some h with ⟨hc, h⟩ | ⟨hc, h⟩
  · cases h
    exact FRM.rf
  rcases ite_some h with ⟨hc, h⟩ | ⟨hc, h⟩
  · cases h
    exact FRM.rf
  rcases ite_some h with ⟨hc, h⟩ | ⟨hc, h⟩
  · cases h
    exact FRM.rf
  cases h
  exact FRM.rf

def SX5_write : List (Nat × Nat) := [(116, 116), (122, 122), (124, 124), (130, 130)]
theorem frX5_write {b : Nat} (hb : isBk b = true) (a1 : Int32) (σ : PS) (r : PS) (h : fX5_write b a1 σ = some r) : FRM SX5_write σ r := by
  unfold fX5_write at h
  rcases ite_some h with ⟨hc, h⟩ | ⟨hc, h⟩
  · cases h
    exact FRM.rf
  · obtain ⟨hi1, h⟩ := gd_some h
    cases h
    exact (FRM.i (FRM.i FRM.rf (inS_bk 6 hb (by decide) (by decide))) (inS_bk0 hb (by decide) (by decide)))

def SX4_release : List (Nat × Nat) := [(38, 38), (116, 116), (122, 122), (124, 124), (130, 130)]
theorem frX4_release_0 {b : Nat} (hb : isBk b = true) : ∀ (n : Nat) (x2 : Int32) (σ : PS) (r : PS), fX4_release_0 b n x2 σ = some r → FRM SX4_release σ r := by
  intro n
  induction n with
  | zero =>
    intro x2 σ r h
    rw [fX4_release_0] at h
    cases h
  | succ n ih =>
    intro x2 σ r h
    rw [fX4_release_0] at h
    rcases ite_some h with ⟨hc, h⟩ | ⟨hc, h⟩
    · cases h
      exact FRM.rf
    · rcases ite_some h with ⟨hc, h⟩ | ⟨hc, h⟩
      · cases h
        exact FRM.rf
      · obtain ⟨hi1, h⟩ := gd_some h
        obtain ⟨q2, e3, h⟩ := bind_some h
        try dsimp only at h
        have g4 := frX4_rank _ _ _ e3
        rcases ite_some h with ⟨hc, h⟩ | ⟨hc, h⟩
        · cases h
          exact (FRM.tr FRM.rf (FRM.mono g4 (by decide)))
        · obtain ⟨hi5, h⟩ := gd_some h
          obtain ⟨q6, e7, h⟩ := bind_some h
          try dsimp only at h
          have g8 := frX5_write hb _ _ _ e7
          exact FRM.tr (FRM.tr (FRM.i (FRM.tr FRM.rf (FRM.mono g4 (by decide))) (by decide)) (FRM.mono g8 (by decide))) (ih x2 q6 _ h)
theorem frX4_release {b : Nat} (hb : isBk b = true) (a2 : Int32) (σ : PS) (r : PS) (h : fX4_release b a2 σ = some r) : FRM SX4_release σ r := by
  unfold fX4_release at h
  exact FRM.tr FRM.rf (frX4_release_0 hb FU a2 σ _ h)

def SX5_beginCondition : List (Nat × Nat) := [(120, 120), (128, 128)]
theorem frX5_beginCondition {b : Nat} (hb : isBk b = true)  (σ : PS) (r : PS) (h : fX5_beginCondition b  σ = some r) : FRM SX5_beginCondition σ r := by
  unfold fX5_beginCondition at h
  rcases ite_some h with ⟨hc, h⟩ | ⟨hc, h⟩
  · cases h
    exact FRM.rf
  · obtain ⟨hi1, h⟩ := gd_some h
    cases h
    exact (FRM.i FRM.rf (inS_bk 4 hb (by decide) (by decide)))

def SX4_takeIf : List (Nat × Nat) := [(38, 38), (120, 120), (128, 128)]
theorem frX4_takeIf {b : Nat} (hb : isBk b = true)  (σ : PS) (r : PS) (h : fX4_takeIf b  σ = some r) : FRM SX4_takeIf σ r := by
  unfold fX4_takeIf at h
  obtain ⟨q1, e2, h⟩ := bind_some h
  try dsimp only at h
  have g3 := frX5_beginCondition hb _ _ e2
  cases h
  exact (FRM.i (FRM.i (FRM.tr FRM.rf (FRM.mono g3 (by decide))) (by decide)) (by decide))

def SX4_hold : List (Nat × Nat) := [(38, 39)]
theorem frX4_hold (a1 : Int32) (σ : PS) (r : PS) (h : fX4_hold a1 σ = some r) : FRM SX4_hold σ r := by
  unfold fX4_hold at h
  rcases ite_some h with ⟨hc, h⟩ | ⟨hc, h⟩
  · cases h
    exact FRM.rf
  · obtain ⟨hi1, h⟩ := gd_some h
    cases h
    exact (FRM.i (FRM.i FRM.rf (by decide)) (by decide))

def SX4_takeOperator : List (Nat × Nat) := [(38, 39)]
theorem frX4_takeOperator (a1 : Int32) (σ : PS) (r : PS) (h : fX4_takeOperator a1 σ = some r) : FRM SX4_takeOperator σ r := by
  unfold fX4_takeOperator at h
  obtain ⟨q1, e2, h⟩ := bind_some h
  try dsimp only at h
  have g3 := frX4_hold _ _ _ e2
  rcases ite_some h with ⟨hc, h⟩ | ⟨hc, h⟩
  · cases h
    exact (FRM.i (FRM.i (FRM.tr FRM.rf (FRM.mono g3 (by decide))) (by decide)) (by decide))
  · rcases ite_some h with ⟨hc, h⟩ | ⟨hc, h⟩
    · cases h
      exact (FRM.i (FRM.i (FRM.tr FRM.rf (FRM.mono g3 (by decide))) (by decide)) (by decide))
    · obtain ⟨q4, e5, h⟩ := bind_some h
      try dsimp only at h
      have g6 := frX8_isWithin _ _ _ _ _ e5
      rcases ite_some h with ⟨hc, h⟩ | ⟨hc, h⟩
      · cases h
        exact (FRM.tr (FRM.i (FRM.tr FRM.rf (FRM.mono g3 (by decide))) (by decide)) (FRM.mono g6 (by decide)))
      · cases h
        exact (FRM.i (FRM.tr (FRM.i (FRM.tr FRM.rf (FRM.mono g3 (by decide))) (by decide)) (FRM.mono g6 (by decide))) (by decide))

def SX5_endRule : List (Nat × Nat) := [(116, 116), (120, 121), (124, 124), (128, 129)]
theorem frX5_endRule_35 {b : Nat} (hb : isBk b = true)  (σ : PS) (r : PS) (h : fX5_endRule_35 b  σ = some r) : FRM SX5_endRule σ r := by
  unfold fX5_endRule_35 at h
  obtain ⟨hi3, h⟩ := gd_some h
  cases h
  exact (FRM.i (FRM.i FRM.rf (inS_bk 5 hb (by decide) (by decide))) (inS_bk0 hb (by decide) (by decide)))
theorem frX5_endRule {b : Nat} (hb : isBk b = true)  (σ : PS) (r : PS) (h : fX5_endRule b  σ = some r) : FRM SX5_endRule σ r := by
  unfold fX5_endRule at h
  rcases ite_some h with ⟨hc, h⟩ | ⟨hc, h⟩
  · cases h
    exact FRM.rf
  · obtain ⟨hi1, h⟩ := gd_some h
    rcases ite_some h with ⟨hc, h⟩ | ⟨hc, h⟩
    · obtain ⟨hi2, h⟩ := gd_some h
      exact FRM.tr (FRM.i FRM.rf (inS_bk 4 hb (by decide) (by decide))) (frX5_endRule_35 hb (sI σ (b + 4) ((gi σ b 7) : Int32).toNatClampNeg (gi σ b 8)) _ h)
    · exact FRM.tr FRM.rf (frX5_endRule_35 hb σ _ h)

def SX4_takeBehindUnit : List (Nat × Nat) := [(38, 39), (116, 116), (120, 122), (124, 124), (128, 130)]
theorem frX4_takeBehindUnit {b : Nat} (hb : isBk b = true)  (σ : PS) (r : PS) (h : fX4_takeBehindUnit b  σ = some r) : FRM SX4_takeBehindUnit σ r := by
  unfold fX4_takeBehindUnit at h
  obtain ⟨q1, e2, h⟩ := bind_some h
  try dsimp only at h
  have g3 := frX4_rank _ _ _ e2
  obtain ⟨q4, e5, h⟩ := bind_some h
  try dsimp only at h
  have g6 := frX4_release hb _ _ _ e5
  rcases ite_some h with ⟨hc, h⟩ | ⟨hc, h⟩
  · obtain ⟨q7, e8, h⟩ := bind_some h
    try dsimp only at h
    have g9 := frX4_takeIf hb _ _ e8
    cases h
    exact (FRM.tr (FRM.tr (FRM.tr FRM.rf (FRM.mono g3 (by decide))) (FRM.mono g6 (by decide))) (FRM.mono g9 (by decide)))
  rcases ite_some h with ⟨hc, h⟩ | ⟨hc, h⟩
  · obtain ⟨q10, e11, h⟩ := bind_some h
    try dsimp only at h
    have g12 := frX5_endRule hb _ _ e11
    cases h
    exact (FRM.i (FRM.tr (FRM.tr (FRM.tr FRM.rf (FRM.mono g3 (by decide))) (FRM.mono g6 (by decide))) (FRM.mono g12 (by decide))) (by decide))
  rcases ite_some h with ⟨hc, h⟩ | ⟨hc, h⟩
  · cases h
    exact (FRM.i (FRM.i (FRM.tr (FRM.tr FRM.rf (FRM.mono g3 (by decide))) (FRM.mono g6 (by decide))) (by decide)) (by decide))
  obtain ⟨q13, e14, h⟩ := bind_some h
  try dsimp only at h
  have g15 := frX4_takeOperator _ _ _ e14
  cases h
  exact (FRM.tr (FRM.tr (FRM.tr FRM.rf (FRM.mono g3 (by decide))) (FRM.mono g6 (by decide))) (FRM.mono g15 (by decide)))

def SX5_isInBar : List (Nat × Nat) := []
theorem frX5_isInBar {b : Nat} (hb : isBk b = true)  (σ : PS) (r : Int32 × PS) (h : fX5_isInBar b  σ = some r) : FRM SX5_isInBar σ r.2 := by
  unfold fX5_isInBar at h
  rcases ite_some h with ⟨hc, h⟩ | ⟨hc, h⟩
  · cases h
    exact FRM.rf
  · obtain ⟨hi1, h⟩ := gd_some h
    rcases ite_some h with ⟨hc, h⟩ | ⟨hc, h⟩
    · cases h
      exact FRM.rf
    · cases h
      exact FRM.rf

def SX5_setLord : List (Nat × Nat) := [(118, 118), (126, 126)]
theorem frX5_setLord {b : Nat} (hb : isBk b = true) (a1 : Int32) (σ : PS) (r : PS) (h : fX5_setLord b a1 σ = some r) : FRM SX5_setLord σ r := by
  unfold fX5_setLord at h
  rcases ite_some h with ⟨hc, h⟩ | ⟨hc, h⟩
  · cases h
    exact FRM.rf
  · obtain ⟨hi1, h⟩ := gd_some h
    cases h
    exact (FRM.i FRM.rf (inS_bk 2 hb (by decide) (by decide)))

def SX8_isLord : List (Nat × Nat) := []
theorem frX8_isLord (a0 : Int32) (σ : PS) (r : Int32 × PS) (h : fX8_isLord a0 σ = some r) : FRM SX8_isLord σ r.2 := by
  unfold fX8_isLord at h
  obtain ⟨q1, e2, h⟩ := bind_some h
  try dsimp only at h
  have g3 := frX8_isWithin _ _ _ _ _ e2
  obtain ⟨-, h⟩ := gd_some h
  cases h
  exact (FRM.tr FRM.rf (FRM.mono g3 (by decide)))

def SX4_takeLord : List (Nat × Nat) := [(38, 38), (118, 118), (126, 126)]
theorem frX4_takeLord_32 {b : Nat} (hb : isBk b = true)  (σ : PS) (r : PS) (h : fX4_takeLord_32 b  σ = some r) : FRM SX4_takeLord σ r := by
  unfold fX4_takeLord_32 at h
  obtain ⟨q4, e5, h⟩ := bind_some h
  try dsimp only at h
  have g6 := frX5_setLord hb _ _ _ e5
  obtain ⟨q7, e8, h⟩ := bind_some h
  try dsimp only at h
  have g9 := frX5_isInBar hb _ _ e8
  rcases ite_some h with ⟨hc, h⟩ | ⟨hc, h⟩
  · cases h
    exact (FRM.i (FRM.tr (FRM.tr FRM.rf (FRM.mono g6 (by decide))) (FRM.mono g9 (by decide))) (by decide))
  · cases h
    exact (FRM.i (FRM.tr (FRM.tr FRM.rf (FRM.mono g6 (by decide))) (FRM.mono g9 (by decide))) (by decide))
theorem frX4_takeLord {b : Nat} (hb : isBk b = true)  (σ : PS) (r : PS) (h : fX4_takeLord b  σ = some r) : FRM SX4_takeLord σ r := by
  unfold fX4_takeLord at h
  obtain ⟨q1, e2, h⟩ := bind_some h
  try dsimp only at h
  have g3 := frX8_isLord _ _ _ e2
  rcases ite_some h with ⟨hc, h⟩ | ⟨hc, h⟩
  · rcases ite_some h with ⟨hc, h⟩ | ⟨hc, h⟩
    · exact FRM.tr (FRM.i (FRM.tr FRM.rf (FRM.mono g3 (by decide))) (by decide)) (frX4_takeLord_32 hb (sI q1.2 38 8 (gi q1.2 40 2)) _ h)
    · exact FRM.tr (FRM.tr FRM.rf (FRM.mono g3 (by decide))) (frX4_takeLord_32 hb q1.2 _ h)
  · exact FRM.tr (FRM.tr FRM.rf (FRM.mono g3 (by decide))) (frX4_takeLord_32 hb q1.2 _ h)

def SX4_takeUnit : List (Nat × Nat) := [(38, 39), (116, 116), (122, 122), (124, 124), (130, 130)]
theorem frX4_takeUnit {b : Nat} (hb : isBk b = true)  (σ : PS) (r : PS) (h : fX4_takeUnit b  σ = some r) : FRM SX4_takeUnit σ r := by
  unfold fX4_takeUnit at h
  rcases ite_some h with ⟨hc, h⟩ | ⟨hc, h⟩
  · obtain ⟨q7, e8, h⟩ := bind_some h
    try dsimp only at h
    have g9 := frX4_hold _ _ _ e8
    cases h
    exact (FRM.i (FRM.tr FRM.rf (FRM.mono g9 (by decide))) (by decide))
  · rcases ite_some h with ⟨hc, h⟩ | ⟨hc, h⟩
    · obtain ⟨q4, e5, h⟩ := bind_some h
      try dsimp only at h
      have g6 := frX5_write hb _ _ _ e5
      cases h
      exact (FRM.i (FRM.tr FRM.rf (FRM.mono g6 (by decide))) (by decide))
    · obtain ⟨q1, e2, h⟩ := bind_some h
      try dsimp only at h
      have g3 := frX5_write hb _ _ _ e2
      cases h
      exact (FRM.i (FRM.tr FRM.rf (FRM.mono g3 (by decide))) (by decide))

def SX5_beginRule : List (Nat × Nat) := [(117, 120), (125, 128)]
theorem frX5_beginRule {b : Nat} (hb : isBk b = true) (a1 : Int32) (σ : PS) (r : PS) (h : fX5_beginRule b a1 σ = some r) : FRM SX5_beginRule σ r := by
  unfold fX5_beginRule at h
  rcases ite_some h with ⟨hc, h⟩ | ⟨hc, h⟩
  · cases h
    exact FRM.rf
  · obtain ⟨hi1, h⟩ := gd_some h
    obtain ⟨hi2, h⟩ := gd_some h
    obtain ⟨hi3, h⟩ := gd_some h
    obtain ⟨hi4, h⟩ := gd_some h
    cases h
    exact (FRM.i (FRM.i (FRM.i (FRM.i FRM.rf (inS_bk 1 hb (by decide) (by decide))) (inS_bk 2 hb (by decide) (by decide))) (inS_bk 3 hb (by decide) (by decide))) (inS_bk 4 hb (by decide) (by decide)))

def SX4_take : List (Nat × Nat) := [(38, 39), (116, 122), (124, 130)]
theorem frX4_take {b : Nat} (hb : isBk b = true)  (σ : PS) (r : PS) (h : fX4_take b  σ = some r) : FRM SX4_take σ r := by
  unfold fX4_take at h
  rcases ite_some h with ⟨hc, h⟩ | ⟨hc, h⟩
  · obtain ⟨q1, e2, h⟩ := bind_some h
    try dsimp only at h
    have g3 := frX5_beginRule hb _ _ _ e2
    rcases ite_some h with ⟨hc, h⟩ | ⟨hc, h⟩
    · cases h
      exact (FRM.i (FRM.i (FRM.tr FRM.rf (FRM.mono g3 (by decide))) (by decide)) (by decide))
    · cases h
      exact (FRM.i (FRM.i (FRM.tr FRM.rf (FRM.mono g3 (by decide))) (by decide)) (by decide))
  rcases ite_some h with ⟨hc, h⟩ | ⟨hc, h⟩
  · obtain ⟨q4, e5, h⟩ := bind_some h
    try dsimp only at h
    have g6 := frX4_takeLord hb _ _ e5
    cases h
    exact (FRM.tr FRM.rf (FRM.mono g6 (by decide)))
  rcases ite_some h with ⟨hc, h⟩ | ⟨hc, h⟩
  · obtain ⟨q7, e8, h⟩ := bind_some h
    try dsimp only at h
    have g9 := frX4_takeIf hb _ _ e8
    cases h
    exact (FRM.tr FRM.rf (FRM.mono g9 (by decide)))
  rcases ite_some h with ⟨hc, h⟩ | ⟨hc, h⟩
  · obtain ⟨q10, e11, h⟩ := bind_some h
    try dsimp only at h
    have g12 := frX4_takeUnit hb _ _ e11
    cases h
    exact (FRM.tr FRM.rf (FRM.mono g12 (by decide)))
  obtain ⟨q13, e14, h⟩ := bind_some h
  try dsimp only at h
  have g15 := frX4_takeBehindUnit hb _ _ e14
  cases h
  exact (FRM.tr FRM.rf (FRM.mono g15 (by decide)))

def SX6_isBlank : List (Nat × Nat) := []
theorem frX6_isBlank (a0 : Int32) (σ : PS) (r : Int32 × PS) (h : fX6_isBlank a0 σ = some r) : FRM SX6_isBlank σ r.2 := by
  unfold fX6_isBlank at h
  rcases ite_some h with ⟨hc, h⟩ | ⟨hc, h⟩
  · cases h
    exact FRM.rf
  · rcases ite_some h with ⟨hc, h⟩ | ⟨hc, h⟩
    · cases h
      exact FRM.rf
    · rcases ite_some h with ⟨hc, h⟩ | ⟨hc, h⟩
      · cases h
        exact FRM.rf
      · rcases ite_some h with ⟨hc, h⟩ | ⟨hc, h⟩
        · cases h
          exact FRM.rf
        · cases h
          exact FRM.rf

def SX7_at : List (Nat × Nat) := []
theorem frX7_at (a1 : Int32) (σ : PS) (r : Int32 × PS) (h : fX7_at a1 σ = some r) : FRM SX7_at σ r.2 := by
  unfold fX7_at at h
  rcases ite_some h with ⟨hc, h⟩ | ⟨hc, h⟩
  · cases h
    exact FRM.rf
  · rcases ite_some h with ⟨hc, h⟩ | ⟨hc, h⟩
    · cases h
      exact FRM.rf
    · rcases ite_some h with ⟨hc, h⟩ | ⟨hc, h⟩
      · cases h
        exact FRM.rf
      · obtain ⟨hi1, h⟩ := gd_some h
        cases h
        exact FRM.rf

def SX6_takeInt : List (Nat × Nat) := [(40, 40)]
theorem frX6_takeInt_79  (σ : PS) (r : PS) (h : fX6_takeInt_79  σ = some r) : FRM SX6_takeInt σ r := by
  unfold fX6_takeInt_79 at h
  rcases ite_some h with ⟨hc, h⟩ | ⟨hc, h⟩
  · cases h
    exact (FRM.i FRM.rf (by decide))
  · cases h
    exact (FRM.i FRM.rf (by decide))
theorem frX6_takeInt_5 : ∀ (n : Nat)  (σ : PS) (r : PS), fX6_takeInt_5 n  σ = some r → FRM SX6_takeInt σ r := by
  intro n
  induction n with
  | zero =>
    intro  σ r h
    rw [fX6_takeInt_5] at h
    cases h
  | succ n ih =>
    intro  σ r h
    rw [fX6_takeInt_5] at h
    rcases ite_some h with ⟨hc, h⟩ | ⟨hc, h⟩
    · exact FRM.tr FRM.rf (frX6_takeInt_79 σ _ h)
    · obtain ⟨q1, e2, h⟩ := bind_some h
      try dsimp only at h
      have g3 := frX7_at _ _ _ e2
      obtain ⟨q4, e5, h⟩ := bind_some h
      try dsimp only at h
      have g6 := frX8_isWithin _ _ _ _ _ e5
      rcases ite_some h with ⟨hc, h⟩ | ⟨hc, h⟩
      · exact FRM.tr (FRM.tr (FRM.tr FRM.rf (FRM.mono g3 (by decide))) (FRM.mono g6 (by decide))) (frX6_takeInt_79 q4.2 _ h)
      · obtain ⟨q7, e8, h⟩ := bind_some h
        try dsimp only at h
        have g9 := frX7_at _ _ _ e8
        exact FRM.tr (FRM.i (FRM.i (FRM.tr (FRM.tr (FRM.tr FRM.rf (FRM.mono g3 (by decide))) (FRM.mono g6 (by decide))) (FRM.mono g9 (by decide))) (by decide)) (by decide)) (ih (sI (sI q7.2 40 4 ((((gi q4.2 40 4) * 10) + q7.1) - 48)) 40 1 ((gi (sI q7.2 40 4 ((((gi q4.2 40 4) * 10) + q7.1) - 48)) 40 1) + 1)) _ h)
theorem frX6_takeInt  (σ : PS) (r : PS) (h : fX6_takeInt  σ = some r) : FRM SX6_takeInt σ r := by
  unfold fX6_takeInt at h
  exact FRM.tr (FRM.i FRM.rf (by decide)) (frX6_takeInt_5 FU (sI σ 40 4 0) _ h)

def SX6_pairToken : List (Nat × Nat) := []
theorem frX6_pairToken (a0 : Int32) (σ : PS) (r : Int32 × PS) (h : fX6_pairToken a0 σ = some r) : FRM SX6_pairToken σ r.2 := by
  unfold fX6_pairToken at h
  rcases ite_some h with ⟨hc, h⟩ | ⟨hc, h⟩
  · cases h
    exact FRM.rf
  · rcases ite_some h with ⟨hc, h⟩ | ⟨hc, h⟩
    · cases h
      exact FRM.rf
    · cases h
      exact FRM.rf

def SX6_signToken : List (Nat × Nat) := []
theorem frX6_signToken (a0 : Int32) (σ : PS) (r : Int32 × PS) (h : fX6_signToken a0 σ = some r) : FRM SX6_signToken σ r.2 := by
  unfold fX6_signToken at h
  rcases ite_some h with ⟨hc, h⟩ | ⟨hc, h⟩
  · cases h
    exact FRM.rf
  rcases ite_some h with ⟨hc, h⟩ | ⟨hc, h⟩
  · cases h
    exact FRM.rf
  rcases ite_some h with ⟨hc, h⟩ | ⟨hc, h⟩
  · cases h
    exact FRM.rf
  rcases ite_some h with ⟨hc, h⟩ | ⟨hc, h⟩
  · cases h
    exact FRM.rf
  rcases ite_some h with ⟨hc, h⟩ | ⟨hc, h⟩
  · cases h
    exact FRM.rf
  rcases ite_some h with ⟨hc, h⟩ | ⟨hc, h⟩
  · cases h
    exact FRM.rf
  rcases ite_some h with ⟨hc, h⟩ | ⟨hc, h⟩
  · cases h
    exact FRM.rf
  rcases ite_some h with ⟨hc, h⟩ | ⟨hc, h⟩
  · cases h
    exact FRM.rf
  rcases ite_some h with ⟨hc, h⟩ | ⟨hc, h⟩
  · cases h
    exact FRM.rf
  rcases ite_some h with ⟨hc, h⟩ | ⟨hc, h⟩
  · cases h
    exact FRM.rf
  rcases ite_some h with ⟨hc, h⟩ | ⟨hc, h⟩
  · cases h
    exact FRM.rf
  rcases ite_some h with ⟨hc, h⟩ | ⟨hc, h⟩
  · cases h
    exact FRM.rf
  rcases ite_some h with ⟨hc, h⟩ | ⟨hc, h⟩
  · cases h
    exact FRM.rf
  rcases ite_some h with ⟨hc, h⟩ | ⟨hc, h⟩
  · cases h
    exact FRM.rf
  rcases ite_some h with ⟨hc, h⟩ | ⟨hc, h⟩
  · cases h
    exact FRM.rf
  rcases ite_some h with ⟨hc, h⟩ | ⟨hc, h⟩
  · cases h
    exact FRM.rf
  rcases ite_some h with ⟨hc, h⟩ | ⟨hc, h⟩
  · cases h
    exact FRM.rf
  rcases ite_some h with ⟨hc, h⟩ | ⟨hc, h⟩
  · cases h
    exact FRM.rf
  rcases ite_some h with ⟨hc, h⟩ | ⟨hc, h⟩
  · cases h
    exact FRM.rf
  rcases ite_some h with ⟨hc, h⟩ | ⟨hc, h⟩
  · cases h
    exact FRM.rf
  rcases ite_some h with ⟨hc, h⟩ | ⟨hc, h⟩
  · cases h
    exact FRM.rf
  cases h
  exact FRM.rf

def SX6_takeSign : List (Nat × Nat) := [(40, 40)]
theorem frX6_takeSign_58 (x2 : Int32) (s1 : Int32) (σ : PS) (r : PS) (h : fX6_takeSign_58 x2 s1 σ = some r) : FRM SX6_takeSign σ r := by
  unfold fX6_takeSign_58 at h
  rcases ite_some h with ⟨hc, h⟩ | ⟨hc, h⟩
  · cases h
    exact (FRM.i (FRM.i FRM.rf (by decide)) (by decide))
  · cases h
    exact (FRM.i (FRM.i FRM.rf (by decide)) (by decide))
theorem frX6_takeSign_41 (x1 : Int32) (s0 : Int32) (σ : PS) (r : PS) (h : fX6_takeSign_41 x1 s0 σ = some r) : FRM SX6_takeSign σ r := by
  unfold fX6_takeSign_41 at h
  rcases ite_some h with ⟨hc, h⟩ | ⟨hc, h⟩
  · obtain ⟨q4, e5, h⟩ := bind_some h
    try dsimp only at h
    have g6 := frX6_signToken _ _ _ e5
    exact FRM.tr (FRM.tr FRM.rf (FRM.mono g6 (by decide))) (frX6_takeSign_58 s0 q4.1 q4.2 _ h)
  · obtain ⟨q7, e8, h⟩ := bind_some h
    try dsimp only at h
    have g9 := frX6_pairToken _ _ _ e8
    exact FRM.tr (FRM.tr FRM.rf (FRM.mono g9 (by decide))) (frX6_takeSign_58 s0 q7.1 q7.2 _ h)
theorem frX6_takeSign_40 (x1 : Int32) (σ : PS) (r : PS) (h : fX6_takeSign_40 x1 σ = some r) : FRM SX6_takeSign σ r := by
  unfold fX6_takeSign_40 at h
  exact FRM.tr FRM.rf (frX6_takeSign_41 x1 0 σ _ h)
theorem frX6_takeSign_36 (x1 : Int32) (σ : PS) (r : PS) (h : fX6_takeSign_36 x1 σ = some r) : FRM SX6_takeSign σ r := by
  unfold fX6_takeSign_36 at h
  exact FRM.tr FRM.rf (frX6_takeSign_41 x1 1 σ _ h)
theorem frX6_takeSign (a1 : Int32) (σ : PS) (r : PS) (h : fX6_takeSign a1 σ = some r) : FRM SX6_takeSign σ r := by
  unfold fX6_takeSign at h
  obtain ⟨q1, e2, h⟩ := bind_some h
  try dsimp only at h
  have g3 := frX7_at _ _ _ e2
  rcases ite_some h with ⟨hc, h⟩ | ⟨hc, h⟩
  · rcases ite_some h with ⟨hc, h⟩ | ⟨hc, h⟩
    · exact FRM.tr (FRM.tr FRM.rf (FRM.mono g3 (by decide))) (frX6_takeSign_36 a1 q1.2 _ h)
    · rcases ite_some h with ⟨hc, h⟩ | ⟨hc, h⟩
      · exact FRM.tr (FRM.tr FRM.rf (FRM.mono g3 (by decide))) (frX6_takeSign_36 a1 q1.2 _ h)
      · rcases ite_some h with ⟨hc, h⟩ | ⟨hc, h⟩
        · exact FRM.tr (FRM.tr FRM.rf (FRM.mono g3 (by decide))) (frX6_takeSign_36 a1 q1.2 _ h)
        · exact FRM.tr (FRM.tr FRM.rf (FRM.mono g3 (by decide))) (frX6_takeSign_40 a1 q1.2 _ h)
  · exact FRM.tr (FRM.tr FRM.rf (FRM.mono g3 (by decide))) (frX6_takeSign_40 a1 q1.2 _ h)

def SX6_wordToken : List (Nat × Nat) := []
theorem frX6_wordToken_101 {r12 : Int32 → Int32 → Int32 → Int32 → PS → Option (Int32 × PS)} (hr_12 : ∀ (x1 : Int32) (x2 : Int32) (x3 : Int32) (x4 : Int32) (σ : PS) (r : Int32 × PS), r12 x1 x2 x3 x4 σ = some r → FRM SX6_wordToken σ r.2) (x1 : Int32) (x2 : Int32) (x3 : Int32) (x4 : Int32) (σ : PS) (r : Int32 × PS) (h : fX6_wordToken_101 r12 x1 x2 x3 x4 σ = some r) : FRM SX6_wordToken σ r.2 := by
  unfold fX6_wordToken_101 at h
  exact FRM.tr FRM.rf (hr_12 x1 x2 x3 (x4 + 1) σ _ h)
theorem frX6_wordToken_91 {r12 : Int32 → Int32 → Int32 → Int32 → PS → Option (Int32 × PS)} (hr_12 : ∀ (x1 : Int32) (x2 : Int32) (x3 : Int32) (x4 : Int32) (σ : PS) (r : Int32 × PS), r12 x1 x2 x3 x4 σ = some r → FRM SX6_wordToken σ r.2) (x1 : Int32) (x4 : Int32) (σ : PS) (r : Int32 × PS) (h : fX6_wordToken_91 r12 x1 x4 σ = some r) : FRM SX6_wordToken σ r.2 := by
  unfold fX6_wordToken_91 at h
  exact FRM.tr FRM.rf (frX6_wordToken_101 hr_12 (x1 + 1) (gi σ 40 2) 1 x4 σ _ h)
theorem frX6_wordToken_68 {r12 : Int32 → Int32 → Int32 → Int32 → PS → Option (Int32 × PS)} (hr_12 : ∀ (x1 : Int32) (x2 : Int32) (x3 : Int32) (x4 : Int32) (σ : PS) (r : Int32 × PS), r12 x1 x2 x3 x4 σ = some r → FRM SX6_wordToken σ r.2) (x1 : Int32) (x2 : Int32) (x4 : Int32) (s0 : Int32) (σ : PS) (r : Int32 × PS) (h : fX6_wordToken_68 r12 x1 x2 x4 s0 σ = some r) : FRM SX6_wordToken σ r.2 := by
  unfold fX6_wordToken_68 at h
  exact FRM.tr FRM.rf (frX6_wordToken_101 hr_12 x1 (x2 + 1) s0 x4 σ _ h)
theorem frX6_wordToken_67 {r12 : Int32 → Int32 → Int32 → Int32 → PS → Option (Int32 × PS)} (hr_12 : ∀ (x1 : Int32) (x2 : Int32) (x3 : Int32) (x4 : Int32) (σ : PS) (r : Int32 × PS), r12 x1 x2 x3 x4 σ = some r → FRM SX6_wordToken σ r.2) (x1 : Int32) (x2 : Int32) (x4 : Int32) (σ : PS) (r : Int32 × PS) (h : fX6_wordToken_67 r12 x1 x2 x4 σ = some r) : FRM SX6_wordToken σ r.2 := by
  unfold fX6_wordToken_67 at h
  exact FRM.tr FRM.rf (frX6_wordToken_68 hr_12 x1 x2 x4 0 σ _ h)
theorem frX6_wordToken_12 : ∀ (n : Nat) (x1 : Int32) (x2 : Int32) (x3 : Int32) (x4 : Int32) (σ : PS) (r : Int32 × PS), fX6_wordToken_12 n x1 x2 x3 x4 σ = some r → FRM SX6_wordToken σ r.2 := by
  intro n
  induction n with
  | zero =>
    intro x1 x2 x3 x4 σ r h
    rw [fX6_wordToken_12] at h
    cases h
  | succ n ih =>
    intro x1 x2 x3 x4 σ r h
    rw [fX6_wordToken_12] at h
    rcases ite_some h with ⟨hc, h⟩ | ⟨hc, h⟩
    · cases h
      exact FRM.rf
    · obtain ⟨hi1, h⟩ := gd_some h
      rcases ite_some h with ⟨hc, h⟩ | ⟨hc, h⟩
      · rcases ite_some h with ⟨hc, h⟩ | ⟨hc, h⟩
        · exact FRM.tr FRM.rf (frX6_wordToken_91 ih x1 x4 σ _ h)
        · rcases ite_some h with ⟨hc, h⟩ | ⟨hc, h⟩
          · cases h
            exact FRM.rf
          · exact FRM.tr FRM.rf (frX6_wordToken_91 ih x1 x4 σ _ h)
      · rcases ite_some h with ⟨hc, h⟩ | ⟨hc, h⟩
        · exact FRM.tr FRM.rf (frX6_wordToken_67 ih x1 x2 x4 σ _ h)
        · rcases ite_some h with ⟨hc, h⟩ | ⟨hc, h⟩
          · exact FRM.tr FRM.rf (frX6_wordToken_67 ih x1 x2 x4 σ _ h)
          · obtain ⟨q2, e3, h⟩ := bind_some h
            try dsimp only at h
            have g4 := frX7_at _ _ _ e3
            rcases ite_some h with ⟨hc, h⟩ | ⟨hc, h⟩
            · exact FRM.tr (FRM.tr FRM.rf (FRM.mono g4 (by decide))) (frX6_wordToken_68 ih x1 x2 x4 1 q2.2 _ h)
            · exact FRM.tr (FRM.tr FRM.rf (FRM.mono g4 (by decide))) (frX6_wordToken_67 ih x1 x2 x4 q2.2 _ h)
theorem frX6_wordToken  (σ : PS) (r : Int32 × PS) (h : fX6_wordToken  σ = some r) : FRM SX6_wordToken σ r.2 := by
  unfold fX6_wordToken at h
  exact FRM.tr FRM.rf (frX6_wordToken_12 FU 0 (gi σ 40 2) 1 0 σ _ h)

def SX6_takeWord : List (Nat × Nat) := [(40, 40)]
theorem frX6_takeWord_48  (σ : PS) (r : PS) (h : fX6_takeWord_48  σ = some r) : FRM SX6_takeWord σ r := by
  unfold fX6_takeWord_48 at h
  rcases ite_some h with ⟨hc, h⟩ | ⟨hc, h⟩
  · cases h
    exact (FRM.i FRM.rf (by decide))
  · obtain ⟨q7, e8, h⟩ := bind_some h
    try dsimp only at h
    have g9 := frX6_wordToken _ _ e8
    cases h
    exact (FRM.i (FRM.tr FRM.rf (FRM.mono g9 (by decide))) (by decide))
theorem frX6_takeWord_0 : ∀ (n : Nat)  (σ : PS) (r : PS), fX6_takeWord_0 n  σ = some r → FRM SX6_takeWord σ r := by
  intro n
  induction n with
  | zero =>
    intro  σ r h
    rw [fX6_takeWord_0] at h
    cases h
  | succ n ih =>
    intro  σ r h
    rw [fX6_takeWord_0] at h
    rcases ite_some h with ⟨hc, h⟩ | ⟨hc, h⟩
    · exact FRM.tr FRM.rf (frX6_takeWord_48 σ _ h)
    · obtain ⟨q1, e2, h⟩ := bind_some h
      try dsimp only at h
      have g3 := frX7_at _ _ _ e2
      obtain ⟨q4, e5, h⟩ := bind_some h
      try dsimp only at h
      have g6 := frX8_isWithin _ _ _ _ _ e5
      rcases ite_some h with ⟨hc, h⟩ | ⟨hc, h⟩
      · exact FRM.tr (FRM.tr (FRM.tr FRM.rf (FRM.mono g3 (by decide))) (FRM.mono g6 (by decide))) (frX6_takeWord_48 q4.2 _ h)
      · exact FRM.tr (FRM.i (FRM.tr (FRM.tr FRM.rf (FRM.mono g3 (by decide))) (FRM.mono g6 (by decide))) (by decide)) (ih (sI q4.2 40 1 ((gi q4.2 40 1) + 1)) _ h)
theorem frX6_takeWord  (σ : PS) (r : PS) (h : fX6_takeWord  σ = some r) : FRM SX6_takeWord σ r := by
  unfold fX6_takeWord at h
  exact FRM.tr FRM.rf (frX6_takeWord_0 FU σ _ h)

def SX6_advance : List (Nat × Nat) := [(40, 40)]
theorem frX6_advance_44  (σ : PS) (r : PS) (h : fX6_advance_44  σ = some r) : FRM SX6_advance σ r := by
  unfold fX6_advance_44 at h
  obtain ⟨q7, e8, h⟩ := bind_some h
  try dsimp only at h
  have g9 := frX7_at _ _ _ e8
  rcases ite_some h with ⟨hc, h⟩ | ⟨hc, h⟩
  · cases h
    exact (FRM.i (FRM.tr (FRM.i FRM.rf (by decide)) (FRM.mono g9 (by decide))) (by decide))
  · obtain ⟨q10, e11, h⟩ := bind_some h
    try dsimp only at h
    have g12 := frX8_isWithin _ _ _ _ _ e11
    rcases ite_some h with ⟨hc, h⟩ | ⟨hc, h⟩
    · obtain ⟨q13, e14, h⟩ := bind_some h
      try dsimp only at h
      have g15 := frX8_isWithin _ _ _ _ _ e14
      rcases ite_some h with ⟨hc, h⟩ | ⟨hc, h⟩
      · obtain ⟨q16, e17, h⟩ := bind_some h
        try dsimp only at h
        have g18 := frX6_takeSign _ _ _ e17
        cases h
        exact (FRM.tr (FRM.tr (FRM.tr (FRM.tr (FRM.i FRM.rf (by decide)) (FRM.mono g9 (by decide))) (FRM.mono g12 (by decide))) (FRM.mono g15 (by decide))) (FRM.mono g18 (by decide)))
      · obtain ⟨q19, e20, h⟩ := bind_some h
        try dsimp only at h
        have g21 := frX6_takeInt _ _ e20
        cases h
        exact (FRM.tr (FRM.tr (FRM.tr (FRM.tr (FRM.i FRM.rf (by decide)) (FRM.mono g9 (by decide))) (FRM.mono g12 (by decide))) (FRM.mono g15 (by decide))) (FRM.mono g21 (by decide)))
    · obtain ⟨q22, e23, h⟩ := bind_some h
      try dsimp only at h
      have g24 := frX6_takeWord _ _ e23
      cases h
      exact (FRM.tr (FRM.tr (FRM.tr (FRM.i FRM.rf (by decide)) (FRM.mono g9 (by decide))) (FRM.mono g12 (by decide))) (FRM.mono g24 (by decide)))
theorem frX6_advance_0 : ∀ (n : Nat)  (σ : PS) (r : PS), fX6_advance_0 n  σ = some r → FRM SX6_advance σ r := by
  intro n
  induction n with
  | zero =>
    intro  σ r h
    rw [fX6_advance_0] at h
    cases h
  | succ n ih =>
    intro  σ r h
    rw [fX6_advance_0] at h
    rcases ite_some h with ⟨hc, h⟩ | ⟨hc, h⟩
    · exact FRM.tr FRM.rf (frX6_advance_44 σ _ h)
    · obtain ⟨q1, e2, h⟩ := bind_some h
      try dsimp only at h
      have g3 := frX7_at _ _ _ e2
      obtain ⟨q4, e5, h⟩ := bind_some h
      try dsimp only at h
      have g6 := frX6_isBlank _ _ _ e5
      rcases ite_some h with ⟨hc, h⟩ | ⟨hc, h⟩
      · exact FRM.tr (FRM.tr (FRM.tr FRM.rf (FRM.mono g3 (by decide))) (FRM.mono g6 (by decide))) (frX6_advance_44 q4.2 _ h)
      · exact FRM.tr (FRM.i (FRM.tr (FRM.tr FRM.rf (FRM.mono g3 (by decide))) (FRM.mono g6 (by decide))) (by decide)) (ih (sI q4.2 40 1 ((gi q4.2 40 1) + 1)) _ h)
theorem frX6_advance  (σ : PS) (r : PS) (h : fX6_advance  σ = some r) : FRM SX6_advance σ r := by
  unfold fX6_advance at h
  exact FRM.tr FRM.rf (frX6_advance_0 FU σ _ h)

def SX4_parse : List (Nat × Nat) := [(38, 40), (116, 122), (124, 130)]
theorem frX4_parse_119 {b : Nat} (hb : isBk b = true)  (σ : PS) (r : Int32 × PS) (h : fX4_parse_119 b  σ = some r) : FRM SX4_parse σ r.2 := by
  unfold fX4_parse_119 at h
  rcases ite_some h with ⟨hc, h⟩ | ⟨hc, h⟩
  · rcases ite_some h with ⟨hc, h⟩ | ⟨hc, h⟩
    · cases h
      exact FRM.rf
    · obtain ⟨q22, e23, h⟩ := bind_some h
      try dsimp only at h
      have g24 := frX4_blame _ _ _ _ e23
      cases h
      exact (FRM.tr FRM.rf (FRM.mono g24 (by decide)))
  · cases h
    exact FRM.rf
theorem frX4_parse_113 {b : Nat} (hb : isBk b = true) {r9 : Int32 → Int32 → PS → Option (Int32 × PS)} (hr_9 : ∀ (x2 : Int32) (x3 : Int32) (σ : PS) (r : Int32 × PS), r9 x2 x3 σ = some r → FRM SX4_parse σ r.2) (x2 : Int32) (x3 : Int32) (σ : PS) (r : Int32 × PS) (h : fX4_parse_113 b r9 x2 x3 σ = some r) : FRM SX4_parse σ r.2 := by
  unfold fX4_parse_113 at h
  exact FRM.tr FRM.rf (hr_9 x2 (x3 + 1) σ _ h)
theorem frX4_parse_93 {b : Nat} (hb : isBk b = true) {r9 : Int32 → Int32 → PS → Option (Int32 × PS)} (hr_9 : ∀ (x2 : Int32) (x3 : Int32) (σ : PS) (r : Int32 × PS), r9 x2 x3 σ = some r → FRM SX4_parse σ r.2) (x2 : Int32) (x3 : Int32) (σ : PS) (r : Int32 × PS) (h : fX4_parse_93 b r9 x2 x3 σ = some r) : FRM SX4_parse σ r.2 := by
  unfold fX4_parse_93 at h
  obtain ⟨q19, e20, h⟩ := bind_some h
  try dsimp only at h
  have g21 := frX4_blame _ _ _ _ e20
  exact FRM.tr (FRM.tr FRM.rf (FRM.mono g21 (by decide))) (frX4_parse_113 hb hr_9 x2 x3 q19 _ h)
theorem frX4_parse_9 {b : Nat} (hb : isBk b = true) : ∀ (n : Nat) (x2 : Int32) (x3 : Int32) (σ : PS) (r : Int32 × PS), fX4_parse_9 b n x2 x3 σ = some r → FRM SX4_parse σ r.2 := by
  intro n
  induction n with
  | zero =>
    intro x2 x3 σ r h
    rw [fX4_parse_9] at h
    cases h
  | succ n ih =>
    intro x2 x3 σ r h
    rw [fX4_parse_9] at h
    rcases ite_some h with ⟨hc, h⟩ | ⟨hc, h⟩
    · exact FRM.tr FRM.rf (frX4_parse_119 hb σ _ h)
    · rcases ite_some h with ⟨hc, h⟩ | ⟨hc, h⟩
      · rcases ite_some h with ⟨hc, h⟩ | ⟨hc, h⟩
        · obtain ⟨q4, e5, h⟩ := bind_some h
          try dsimp only at h
          have g6 := frX6_advance _ _ e5
          obtain ⟨q7, e8, h⟩ := bind_some h
          try dsimp only at h
          have g9 := frX4_mayFollow _ _ _ e8
          rcases ite_some h with ⟨hc, h⟩ | ⟨hc, h⟩
          · obtain ⟨q16, e17, h⟩ := bind_some h
            try dsimp only at h
            have g18 := frX4_blame _ _ _ _ e17
            exact FRM.tr (FRM.tr (FRM.tr (FRM.tr FRM.rf (FRM.mono g6 (by decide))) (FRM.mono g9 (by decide))) (FRM.mono g18 (by decide))) (frX4_parse_113 hb ih x2 x3 q16 _ h)
          · rcases ite_some h with ⟨hc, h⟩ | ⟨hc, h⟩
            · exact FRM.tr (FRM.tr (FRM.tr FRM.rf (FRM.mono g6 (by decide))) (FRM.mono g9 (by decide))) (frX4_parse_113 hb ih 1 x3 q7.2 _ h)
            · rcases ite_some h with ⟨hc, h⟩ | ⟨hc, h⟩
              · exact FRM.tr (FRM.tr (FRM.tr FRM.rf (FRM.mono g6 (by decide))) (FRM.mono g9 (by decide))) (frX4_parse_93 hb ih x2 x3 q7.2 _ h)
              · obtain ⟨q10, e11, h⟩ := bind_some h
                try dsimp only at h
                have g12 := frX4_isTooMuch hb _ _ e11
                rcases ite_some h with ⟨hc, h⟩ | ⟨hc, h⟩
                · obtain ⟨q13, e14, h⟩ := bind_some h
                  try dsimp only at h
                  have g15 := frX4_take hb _ _ e14
                  exact FRM.tr (FRM.tr (FRM.tr (FRM.tr (FRM.tr FRM.rf (FRM.mono g6 (by decide))) (FRM.mono g9 (by decide))) (FRM.mono g12 (by decide))) (FRM.mono g15 (by decide))) (frX4_parse_113 hb ih x2 x3 q13 _ h)
                · exact FRM.tr (FRM.tr (FRM.tr (FRM.tr FRM.rf (FRM.mono g6 (by decide))) (FRM.mono g9 (by decide))) (FRM.mono g12 (by decide))) (frX4_parse_93 hb ih x2 x3 q10.2 _ h)
        · exact FRM.tr FRM.rf (frX4_parse_119 hb σ _ h)
      · exact FRM.tr FRM.rf (frX4_parse_119 hb σ _ h)
theorem frX4_parse {b : Nat} (hb : isBk b = true)  (σ : PS) (r : Int32 × PS) (h : fX4_parse b  σ = some r) : FRM SX4_parse σ r.2 := by
  unfold fX4_parse at h
  obtain ⟨q1, e2, h⟩ := bind_some h
  try dsimp only at h
  have g3 := frX4_begin hb _ _ e2
  exact FRM.tr (FRM.tr FRM.rf (FRM.mono g3 (by decide))) (frX4_parse_9 hb FU 0 0 q1 _ h)

def SX8_place : List (Nat × Nat) := []
theorem frX8_place  (σ : PS) (r : Int32 × PS) (h : fX8_place  σ = some r) : FRM SX8_place σ r.2 := by
  unfold fX8_place at h
  cases h
  exact FRM.rf

def SX8_inn : List (Nat × Nat) := [(3, 6), (41, 41)]
theorem frX8_inn (a1 : Int32) (a2 : Int32) (a3 : Int32) (σ : PS) (r : Int32 × PS) (h : fX8_inn a1 a2 a3 σ = some r) : FRM SX8_inn σ r.2 := by
  unfold fX8_inn at h
  rcases ite_some h with ⟨hc, h⟩ | ⟨hc, h⟩
  · cases h
    exact FRM.rf
  · obtain ⟨q1, e2, h⟩ := bind_some h
    try dsimp only at h
    have g3 := frX8_isLord _ _ _ e2
    rcases ite_some h with ⟨hc, h⟩ | ⟨hc, h⟩
    · cases h
      exact (FRM.tr FRM.rf (FRM.mono g3 (by decide)))
    · obtain ⟨q4, e5, h⟩ := bind_some h
      try dsimp only at h
      have g6 := frX8_isWithin _ _ _ _ _ e5
      rcases ite_some h with ⟨hc, h⟩ | ⟨hc, h⟩
      · cases h
        exact (FRM.tr (FRM.tr FRM.rf (FRM.mono g3 (by decide))) (FRM.mono g6 (by decide)))
      · obtain ⟨q7, e8, h⟩ := bind_some h
        try dsimp only at h
        have g9 := frX8_isWithin _ _ _ _ _ e8
        rcases ite_some h with ⟨hc, h⟩ | ⟨hc, h⟩
        · cases h
          exact (FRM.tr (FRM.tr (FRM.tr FRM.rf (FRM.mono g3 (by decide))) (FRM.mono g6 (by decide))) (FRM.mono g9 (by decide)))
        · obtain ⟨hi10, h⟩ := gd_some h
          obtain ⟨hi11, h⟩ := gd_some h
          obtain ⟨hi12, h⟩ := gd_some h
          obtain ⟨q13, e14, h⟩ := bind_some h
          try dsimp only at h
          have g15 := frX1_forget _ _ e14
          cases h
          exact (FRM.tr (FRM.i (FRM.i (FRM.i (FRM.i (FRM.tr (FRM.tr (FRM.tr FRM.rf (FRM.mono g3 (by decide))) (FRM.mono g6 (by decide))) (FRM.mono g9 (by decide))) (by decide)) (by decide)) (by decide)) (by decide)) (FRM.mono g15 (by decide)))

def SX2_hasInn : List (Nat × Nat) := []
theorem frX2_hasInn (a1 : Int32) (σ : PS) (r : Int32 × PS) (h : fX2_hasInn a1 σ = some r) : FRM SX2_hasInn σ r.2 := by
  unfold fX2_hasInn at h
  obtain ⟨q1, e2, h⟩ := bind_some h
  try dsimp only at h
  have g3 := frX8_isWithin _ _ _ _ _ e2
  obtain ⟨-, h⟩ := gd_some h
  cases h
  exact (FRM.tr FRM.rf (FRM.mono g3 (by decide)))

def SX8_room : List (Nat × Nat) := [(7, 7), (9, 16), (41, 41)]
theorem frX8_room (a1 : Int32) (a2 : Int32) (σ : PS) (r : Int32 × PS) (h : fX8_room a1 a2 σ = some r) : FRM SX8_room σ r.2 := by
  unfold fX8_room at h
  obtain ⟨q1, e2, h⟩ := bind_some h
  try dsimp only at h
  have g3 := frX2_hasInn _ _ _ e2
  rcases ite_some h with ⟨hc, h⟩ | ⟨hc, h⟩
  · cases h
    exact (FRM.tr FRM.rf (FRM.mono g3 (by decide)))
  · obtain ⟨q4, e5, h⟩ := bind_some h
    try dsimp only at h
    have g6 := frX8_isWithin _ _ _ _ _ e5
    rcases ite_some h with ⟨hc, h⟩ | ⟨hc, h⟩
    · cases h
      exact (FRM.tr (FRM.tr FRM.rf (FRM.mono g3 (by decide))) (FRM.mono g6 (by decide)))
    · obtain ⟨hi7, h⟩ := gd_some h
      rcases ite_some h with ⟨hc, h⟩ | ⟨hc, h⟩
      · obtain ⟨hi8, h⟩ := gd_some h
        obtain ⟨hi9, h⟩ := gd_some h
        obtain ⟨hi10, h⟩ := gd_some h
        obtain ⟨q11, e12, h⟩ := bind_some h
        try dsimp only at h
        have g13 := frX1_forget _ _ e12
        cases h
        exact (FRM.tr (FRM.i (FRM.i (FRM.tr (FRM.tr FRM.rf (FRM.mono g3 (by decide))) (FRM.mono g6 (by decide))) (inS_row (n := 8) (by decide) hi8)) (by decide)) (FRM.mono g13 (by decide)))
      · cases h
        exact (FRM.tr (FRM.tr FRM.rf (FRM.mono g3 (by decide))) (FRM.mono g6 (by decide)))

def SX8_isDay : List (Nat × Nat) := []
theorem frX8_isDay (a0 : Int32) (σ : PS) (r : Int32 × PS) (h : fX8_isDay a0 σ = some r) : FRM SX8_isDay σ r.2 := by
  unfold fX8_isDay at h
  obtain ⟨q1, e2, h⟩ := bind_some h
  try dsimp only at h
  have g3 := frX8_isWithin _ _ _ _ _ e2
  obtain ⟨-, h⟩ := gd_some h
  cases h
  exact (FRM.tr FRM.rf (FRM.mono g3 (by decide)))

def SX8_caravan : List (Nat × Nat) := [(3, 3), (17, 22), (41, 41)]
theorem frX8_caravan_89 (x1 : Int32) (x2 : Int32) (x3 : Int32) (x4 : Int32) (x5 : Int32) (x6 : Int32) (x7 : Int32) (x8 : Int32) (s0 : Int32) (σ : PS) (r : Int32 × PS) (h : fX8_caravan_89 x1 x2 x3 x4 x5 x6 x7 x8 s0 σ = some r) : FRM SX8_caravan σ r.2 := by
  unfold fX8_caravan_89 at h
  rcases ite_some h with ⟨hc, h⟩ | ⟨hc, h⟩
  · cases h
    exact FRM.rf
  · rcases ite_some h with ⟨hc, h⟩ | ⟨hc, h⟩
    · cases h
      exact FRM.rf
    · rcases ite_some h with ⟨hc, h⟩ | ⟨hc, h⟩
      · cases h
        exact FRM.rf
      · obtain ⟨hi19, h⟩ := gd_some h
        obtain ⟨hi20, h⟩ := gd_some h
        obtain ⟨hi21, h⟩ := gd_some h
        obtain ⟨hi22, h⟩ := gd_some h
        obtain ⟨hi23, h⟩ := gd_some h
        obtain ⟨hi24, h⟩ := gd_some h
        obtain ⟨q25, e26, h⟩ := bind_some h
        try dsimp only at h
        have g27 := frX1_forget _ _ e26
        cases h
        exact (FRM.tr (FRM.i (FRM.i (FRM.i (FRM.i (FRM.i (FRM.i (FRM.i FRM.rf (by decide)) (by decide)) (by decide)) (by decide)) (by decide)) (by decide)) (by decide)) (FRM.mono g27 (by decide)))
theorem frX8_caravan_88 (x1 : Int32) (x2 : Int32) (x3 : Int32) (x4 : Int32) (x5 : Int32) (x6 : Int32) (x7 : Int32) (x8 : Int32) (σ : PS) (r : Int32 × PS) (h : fX8_caravan_88 x1 x2 x3 x4 x5 x6 x7 x8 σ = some r) : FRM SX8_caravan σ r.2 := by
  unfold fX8_caravan_88 at h
  exact FRM.tr FRM.rf (frX8_caravan_89 x1 x2 x3 x4 x5 x6 x7 x8 0 σ _ h)
theorem frX8_caravan_43 (x1 : Int32) (x2 : Int32) (x3 : Int32) (x4 : Int32) (x5 : Int32) (x6 : Int32) (x7 : Int32) (s0 : Int32) (σ : PS) (r : Int32 × PS) (h : fX8_caravan_43 x1 x2 x3 x4 x5 x6 x7 s0 σ = some r) : FRM SX8_caravan σ r.2 := by
  unfold fX8_caravan_43 at h
  obtain ⟨q10, e11, h⟩ := bind_some h
  try dsimp only at h
  have g12 := frX2_hasInn _ _ _ e11
  rcases ite_some h with ⟨hc, h⟩ | ⟨hc, h⟩
  · exact FRM.tr (FRM.tr FRM.rf (FRM.mono g12 (by decide))) (frX8_caravan_88 x1 x2 x3 x4 x5 x6 x7 s0 q10.2 _ h)
  · obtain ⟨q13, e14, h⟩ := bind_some h
    try dsimp only at h
    have g15 := frX2_hasInn _ _ _ e14
    rcases ite_some h with ⟨hc, h⟩ | ⟨hc, h⟩
    · exact FRM.tr (FRM.tr (FRM.tr FRM.rf (FRM.mono g12 (by decide))) (FRM.mono g15 (by decide))) (frX8_caravan_88 x1 x2 x3 x4 x5 x6 x7 s0 q13.2 _ h)
    · rcases ite_some h with ⟨hc, h⟩ | ⟨hc, h⟩
      · exact FRM.tr (FRM.tr (FRM.tr FRM.rf (FRM.mono g12 (by decide))) (FRM.mono g15 (by decide))) (frX8_caravan_88 x1 x2 x3 x4 x5 x6 x7 s0 q13.2 _ h)
      · obtain ⟨q16, e17, h⟩ := bind_some h
        try dsimp only at h
        have g18 := frX8_isDay _ _ _ e17
        rcases ite_some h with ⟨hc, h⟩ | ⟨hc, h⟩
        · exact FRM.tr (FRM.tr (FRM.tr (FRM.tr FRM.rf (FRM.mono g12 (by decide))) (FRM.mono g15 (by decide))) (FRM.mono g18 (by decide))) (frX8_caravan_88 x1 x2 x3 x4 x5 x6 x7 s0 q16.2 _ h)
        · exact FRM.tr (FRM.tr (FRM.tr (FRM.tr FRM.rf (FRM.mono g12 (by decide))) (FRM.mono g15 (by decide))) (FRM.mono g18 (by decide))) (frX8_caravan_89 x1 x2 x3 x4 x5 x6 x7 s0 1 q16.2 _ h)
theorem frX8_caravan_42 (x1 : Int32) (x2 : Int32) (x3 : Int32) (x4 : Int32) (x5 : Int32) (x6 : Int32) (x7 : Int32) (σ : PS) (r : Int32 × PS) (h : fX8_caravan_42 x1 x2 x3 x4 x5 x6 x7 σ = some r) : FRM SX8_caravan σ r.2 := by
  unfold fX8_caravan_42 at h
  exact FRM.tr FRM.rf (frX8_caravan_43 x1 x2 x3 x4 x5 x6 x7 0 σ _ h)
theorem frX8_caravan (a1 : Int32) (a2 : Int32) (a3 : Int32) (a4 : Int32) (a5 : Int32) (a6 : Int32) (σ : PS) (r : Int32 × PS) (h : fX8_caravan a1 a2 a3 a4 a5 a6 σ = some r) : FRM SX8_caravan σ r.2 := by
  unfold fX8_caravan at h
  obtain ⟨q1, e2, h⟩ := bind_some h
  try dsimp only at h
  have g3 := frX8_isWithin _ _ _ _ _ e2
  rcases ite_some h with ⟨hc, h⟩ | ⟨hc, h⟩
  · exact FRM.tr (FRM.tr FRM.rf (FRM.mono g3 (by decide))) (frX8_caravan_42 a1 a2 a3 a4 a5 a6 (gi σ 3 6) q1.2 _ h)
  · obtain ⟨q4, e5, h⟩ := bind_some h
    try dsimp only at h
    have g6 := frX8_isWithin _ _ _ _ _ e5
    rcases ite_some h with ⟨hc, h⟩ | ⟨hc, h⟩
    · exact FRM.tr (FRM.tr (FRM.tr FRM.rf (FRM.mono g3 (by decide))) (FRM.mono g6 (by decide))) (frX8_caravan_42 a1 a2 a3 a4 a5 a6 (gi σ 3 6) q4.2 _ h)
    · obtain ⟨q7, e8, h⟩ := bind_some h
      try dsimp only at h
      have g9 := frX8_isWithin _ _ _ _ _ e8
      rcases ite_some h with ⟨hc, h⟩ | ⟨hc, h⟩
      · exact FRM.tr (FRM.tr (FRM.tr (FRM.tr FRM.rf (FRM.mono g3 (by decide))) (FRM.mono g6 (by decide))) (FRM.mono g9 (by decide))) (frX8_caravan_42 a1 a2 a3 a4 a5 a6 (gi σ 3 6) q7.2 _ h)
      · exact FRM.tr (FRM.tr (FRM.tr (FRM.tr FRM.rf (FRM.mono g3 (by decide))) (FRM.mono g6 (by decide))) (FRM.mono g9 (by decide))) (frX8_caravan_43 a1 a2 a3 a4 a5 a6 (gi σ 3 6) 1 q7.2 _ h)

def SX2_hasCaravan : List (Nat × Nat) := []
theorem frX2_hasCaravan (a1 : Int32) (σ : PS) (r : Int32 × PS) (h : fX2_hasCaravan a1 σ = some r) : FRM SX2_hasCaravan σ r.2 := by
  unfold fX2_hasCaravan at h
  obtain ⟨q1, e2, h⟩ := bind_some h
  try dsimp only at h
  have g3 := frX8_isWithin _ _ _ _ _ e2
  obtain ⟨-, h⟩ := gd_some h
  cases h
  exact (FRM.tr FRM.rf (FRM.mono g3 (by decide)))

def SX8_bale : List (Nat × Nat) := [(3, 3), (23, 24), (41, 41)]
theorem frX8_bale (a1 : Int32) (σ : PS) (r : Int32 × PS) (h : fX8_bale a1 σ = some r) : FRM SX8_bale σ r.2 := by
  unfold fX8_bale at h
  rcases ite_some h with ⟨hc, h⟩ | ⟨hc, h⟩
  · cases h
    exact FRM.rf
  · obtain ⟨q1, e2, h⟩ := bind_some h
    try dsimp only at h
    have g3 := frX2_hasCaravan _ _ _ e2
    rcases ite_some h with ⟨hc, h⟩ | ⟨hc, h⟩
    · cases h
      exact (FRM.tr FRM.rf (FRM.mono g3 (by decide)))
    · obtain ⟨hi4, h⟩ := gd_some h
      obtain ⟨hi5, h⟩ := gd_some h
      obtain ⟨hi6, h⟩ := gd_some h
      obtain ⟨q7, e8, h⟩ := bind_some h
      try dsimp only at h
      have g9 := frX1_forget _ _ e8
      cases h
      exact (FRM.tr (FRM.i (FRM.i (FRM.i (FRM.tr FRM.rf (FRM.mono g3 (by decide))) (by decide)) (by decide)) (by decide)) (FRM.mono g9 (by decide)))

def SX0_add : List (Nat × Nat) := [(25, 28)]
theorem frX0_add (a1 : Int32) (a2 : Int32) (a3 : Int32) (σ : PS) (r : Int32 × PS) (h : fX0_add a1 a2 a3 σ = some r) : FRM SX0_add σ r.2 := by
  unfold fX0_add at h
  rcases ite_some h with ⟨hc, h⟩ | ⟨hc, h⟩
  · obtain ⟨hi1, h⟩ := gd_some h
    obtain ⟨hi2, h⟩ := gd_some h
    obtain ⟨hi3, h⟩ := gd_some h
    cases h
    exact (FRM.i (FRM.i (FRM.i (FRM.i FRM.rf (by decide)) (by decide)) (by decide)) (by decide))
  · cases h
    exact FRM.rf

def SX0_addShut : List (Nat × Nat) := [(25, 28), (30, 37)]
theorem frX0_addShut (a1 : Int32) (a2 : Int32) (σ : PS) (r : Int32 × PS) (h : fX0_addShut a1 a2 σ = some r) : FRM SX0_addShut σ r.2 := by
  unfold fX0_addShut at h
  obtain ⟨q1, e2, h⟩ := bind_some h
  try dsimp only at h
  have g3 := frX0_add _ _ _ _ _ e2
  rcases ite_some h with ⟨hc, h⟩ | ⟨hc, h⟩
  · cases h
    exact (FRM.tr FRM.rf (FRM.mono g3 (by decide)))
  · obtain ⟨hi4, h⟩ := gd_some h
    obtain ⟨hi5, h⟩ := gd_some h
    rcases ite_some h with ⟨hc, h⟩ | ⟨hc, h⟩
    · obtain ⟨hi6, h⟩ := gd_some h
      obtain ⟨hi7, h⟩ := gd_some h
      cases h
      exact (FRM.i (FRM.tr FRM.rf (FRM.mono g3 (by decide))) (inS_row (n := 8) (by decide) hi6))
    · cases h
      exact (FRM.tr FRM.rf (FRM.mono g3 (by decide)))

def SX8_shut : List (Nat × Nat) := [(25, 28), (30, 37)]
theorem frX8_shut (a1 : Int32) (a2 : Int32) (σ : PS) (r : Int32 × PS) (h : fX8_shut a1 a2 σ = some r) : FRM SX8_shut σ r.2 := by
  unfold fX8_shut at h
  obtain ⟨q1, e2, h⟩ := bind_some h
  try dsimp only at h
  have g3 := frX8_isWithin _ _ _ _ _ e2
  rcases ite_some h with ⟨hc, h⟩ | ⟨hc, h⟩
  · cases h
    exact (FRM.tr FRM.rf (FRM.mono g3 (by decide)))
  · obtain ⟨q4, e5, h⟩ := bind_some h
    try dsimp only at h
    have g6 := frX8_isDay _ _ _ e5
    rcases ite_some h with ⟨hc, h⟩ | ⟨hc, h⟩
    · cases h
      exact (FRM.tr (FRM.tr FRM.rf (FRM.mono g3 (by decide))) (FRM.mono g6 (by decide)))
    · obtain ⟨q7, e8, h⟩ := bind_some h
      try dsimp only at h
      have g9 := frX0_addShut _ _ _ _ e8
      cases h
      exact (FRM.tr (FRM.tr (FRM.tr FRM.rf (FRM.mono g3 (by decide))) (FRM.mono g6 (by decide))) (FRM.mono g9 (by decide)))

def SX0_addLook : List (Nat × Nat) := [(25, 28)]
theorem frX0_addLook (a1 : Int32) (a2 : Int32) (a3 : Int32) (σ : PS) (r : Int32 × PS) (h : fX0_addLook a1 a2 a3 σ = some r) : FRM SX0_addLook σ r.2 := by
  unfold fX0_addLook at h
  obtain ⟨q1, e2, h⟩ := bind_some h
  try dsimp only at h
  have g3 := frX0_add _ _ _ _ _ e2
  cases h
  exact (FRM.tr FRM.rf (FRM.mono g3 (by decide)))

def SX2_hasBale : List (Nat × Nat) := []
theorem frX2_hasBale (a1 : Int32) (σ : PS) (r : Int32 × PS) (h : fX2_hasBale a1 σ = some r) : FRM SX2_hasBale σ r.2 := by
  unfold fX2_hasBale at h
  obtain ⟨q1, e2, h⟩ := bind_some h
  try dsimp only at h
  have g3 := frX8_isWithin _ _ _ _ _ e2
  obtain ⟨-, h⟩ := gd_some h
  cases h
  exact (FRM.tr FRM.rf (FRM.mono g3 (by decide)))

def SX8_look : List (Nat × Nat) := [(25, 28)]
theorem frX8_look (a1 : Int32) (a2 : Int32) (a3 : Int32) (σ : PS) (r : Int32 × PS) (h : fX8_look a1 a2 a3 σ = some r) : FRM SX8_look σ r.2 := by
  unfold fX8_look at h
  obtain ⟨q1, e2, h⟩ := bind_some h
  try dsimp only at h
  have g3 := frX2_hasBale _ _ _ e2
  rcases ite_some h with ⟨hc, h⟩ | ⟨hc, h⟩
  · cases h
    exact (FRM.tr FRM.rf (FRM.mono g3 (by decide)))
  · obtain ⟨q4, e5, h⟩ := bind_some h
    try dsimp only at h
    have g6 := frX8_isDay _ _ _ e5
    rcases ite_some h with ⟨hc, h⟩ | ⟨hc, h⟩
    · cases h
      exact (FRM.tr (FRM.tr FRM.rf (FRM.mono g3 (by decide))) (FRM.mono g6 (by decide)))
    · obtain ⟨q7, e8, h⟩ := bind_some h
      try dsimp only at h
      have g9 := frX0_addLook _ _ _ _ _ e8
      cases h
      exact (FRM.tr (FRM.tr (FRM.tr FRM.rf (FRM.mono g3 (by decide))) (FRM.mono g6 (by decide))) (FRM.mono g9 (by decide)))

def SX0_isKnown : List (Nat × Nat) := []
theorem frX0_isKnown (a1 : Int32) (σ : PS) (r : Int32 × PS) (h : fX0_isKnown a1 σ = some r) : FRM SX0_isKnown σ r.2 := by
  unfold fX0_isKnown at h
  obtain ⟨q1, e2, h⟩ := bind_some h
  try dsimp only at h
  have g3 := frX8_isWithin _ _ _ _ _ e2
  obtain ⟨-, h⟩ := gd_some h
  cases h
  exact (FRM.tr FRM.rf (FRM.mono g3 (by decide)))

def SX1_isOutside : List (Nat × Nat) := []
theorem frX1_isOutside (a1 : Int32) (a2 : Int32) (σ : PS) (r : Int32 × PS) (h : fX1_isOutside a1 a2 σ = some r) : FRM SX1_isOutside σ r.2 := by
  unfold fX1_isOutside at h
  obtain ⟨hi1, h⟩ := gd_some h
  obtain ⟨hi2, h⟩ := gd_some h
  rcases ite_some h with ⟨hc, h⟩ | ⟨hc, h⟩
  · cases h
    exact FRM.rf
  · obtain ⟨hi3, h⟩ := gd_some h
    obtain ⟨hi4, h⟩ := gd_some h
    rcases ite_some h with ⟨hc, h⟩ | ⟨hc, h⟩
    · cases h
      exact FRM.rf
    · cases h
      exact FRM.rf

def SX0_shutsAmong : List (Nat × Nat) := []
theorem frX0_shutsAmong_29 {r4 : Int32 → Int32 → Int32 → PS → Option (Int32 × PS)} (hr_4 : ∀ (x1 : Int32) (x2 : Int32) (x3 : Int32) (σ : PS) (r : Int32 × PS), r4 x1 x2 x3 σ = some r → FRM SX0_shutsAmong σ r.2) (x1 : Int32) (x2 : Int32) (x3 : Int32) (σ : PS) (r : Int32 × PS) (h : fX0_shutsAmong_29 r4 x1 x2 x3 σ = some r) : FRM SX0_shutsAmong σ r.2 := by
  unfold fX0_shutsAmong_29 at h
  exact FRM.tr FRM.rf (hr_4 x1 x2 (x3 + 1) σ _ h)
theorem frX0_shutsAmong_4 : ∀ (n : Nat) (x1 : Int32) (x2 : Int32) (x3 : Int32) (σ : PS) (r : Int32 × PS), fX0_shutsAmong_4 n x1 x2 x3 σ = some r → FRM SX0_shutsAmong σ r.2 := by
  intro n
  induction n with
  | zero =>
    intro x1 x2 x3 σ r h
    rw [fX0_shutsAmong_4] at h
    cases h
  | succ n ih =>
    intro x1 x2 x3 σ r h
    rw [fX0_shutsAmong_4] at h
    rcases ite_some h with ⟨hc, h⟩ | ⟨hc, h⟩
    · cases h
      exact FRM.rf
    · rcases ite_some h with ⟨hc, h⟩ | ⟨hc, h⟩
      · cases h
        exact FRM.rf
      · obtain ⟨hi1, h⟩ := gd_some h
        rcases ite_some h with ⟨hc, h⟩ | ⟨hc, h⟩
        · exact FRM.tr FRM.rf (frX0_shutsAmong_29 ih x1 (x2 + 1) x3 σ _ h)
        · exact FRM.tr FRM.rf (frX0_shutsAmong_29 ih x1 x2 x3 σ _ h)
theorem frX0_shutsAmong (a1 : Int32) (σ : PS) (r : Int32 × PS) (h : fX0_shutsAmong a1 σ = some r) : FRM SX0_shutsAmong σ r.2 := by
  unfold fX0_shutsAmong at h
  exact FRM.tr FRM.rf (frX0_shutsAmong_4 FU a1 0 0 σ _ h)

def SX3_admit : List (Nat × Nat) := [(107, 109)]
theorem frX3_admit_65 (x1 : Int32) (x2 : Int32) (x3 : Int32) (σ : PS) (r : PS) (h : fX3_admit_65 x1 x2 x3 σ = some r) : FRM SX3_admit σ r := by
  unfold fX3_admit_65 at h
  obtain ⟨hi6, h⟩ := gd_some h
  obtain ⟨hi7, h⟩ := gd_some h
  cases h
  exact (FRM.i (FRM.i (FRM.i FRM.rf (by decide)) (by decide)) (by decide))
theorem frX3_admit_15 : ∀ (n : Nat) (x1 : Int32) (x2 : Int32) (x3 : Int32) (σ : PS) (r : PS), fX3_admit_15 n x1 x2 x3 σ = some r → FRM SX3_admit σ r := by
  intro n
  induction n with
  | zero =>
    intro x1 x2 x3 σ r h
    rw [fX3_admit_15] at h
    cases h
  | succ n ih =>
    intro x1 x2 x3 σ r h
    rw [fX3_admit_15] at h
    rcases ite_some h with ⟨hc, h⟩ | ⟨hc, h⟩
    · exact FRM.tr FRM.rf (frX3_admit_65 x1 x2 x3 σ _ h)
    · obtain ⟨hi1, h⟩ := gd_some h
      rcases ite_some h with ⟨hc, h⟩ | ⟨hc, h⟩
      · exact FRM.tr FRM.rf (frX3_admit_65 x1 x2 x3 σ _ h)
      · obtain ⟨hi2, h⟩ := gd_some h
        obtain ⟨hi3, h⟩ := gd_some h
        obtain ⟨hi4, h⟩ := gd_some h
        obtain ⟨hi5, h⟩ := gd_some h
        exact FRM.tr (FRM.i (FRM.i FRM.rf (by decide)) (by decide)) (ih x1 x2 (x3 + (-1)) (sI (sI σ 108 (x3 : Int32).toNatClampNeg (gi σ 108 ((x3 - 1) : Int32).toNatClampNeg)) 109 (x3 : Int32).toNatClampNeg (gi (sI σ 108 (x3 : Int32).toNatClampNeg (gi σ 108 ((x3 - 1) : Int32).toNatClampNeg)) 109 ((x3 - 1) : Int32).toNatClampNeg)) _ h)
theorem frX3_admit (a1 : Int32) (a2 : Int32) (σ : PS) (r : PS) (h : fX3_admit a1 a2 σ = some r) : FRM SX3_admit σ r := by
  unfold fX3_admit at h
  rcases ite_some h with ⟨hc, h⟩ | ⟨hc, h⟩
  · exact FRM.tr FRM.rf (frX3_admit_15 FU a1 a2 (gi σ 107 2) σ _ h)
  · cases h
    exact FRM.rf

def SX3_isOpenTo : List (Nat × Nat) := []
theorem frX3_isOpenTo_27 (x1 : Int32) (x2 : Int32) (σ : PS) (r : Int32 × PS) (h : fX3_isOpenTo_27 x1 x2 σ = some r) : FRM SX3_isOpenTo σ r.2 := by
  unfold fX3_isOpenTo_27 at h
  obtain ⟨hi4, h⟩ := gd_some h
  obtain ⟨hi5, h⟩ := gd_some h
  obtain ⟨hi6, h⟩ := gd_some h
  obtain ⟨hi7, h⟩ := gd_some h
  rcases ite_some h with ⟨hc, h⟩ | ⟨hc, h⟩
  · cases h
    exact FRM.rf
  · cases h
    exact FRM.rf
theorem frX3_isOpenTo (a1 : Int32) (a2 : Int32) (σ : PS) (r : Int32 × PS) (h : fX3_isOpenTo a1 a2 σ = some r) : FRM SX3_isOpenTo σ r.2 := by
  unfold fX3_isOpenTo at h
  obtain ⟨hi1, h⟩ := gd_some h
  rcases ite_some h with ⟨hc, h⟩ | ⟨hc, h⟩
  · exact FRM.tr FRM.rf (frX3_isOpenTo_27 a1 a2 σ _ h)
  · obtain ⟨hi2, h⟩ := gd_some h
    obtain ⟨hi3, h⟩ := gd_some h
    rcases ite_some h with ⟨hc, h⟩ | ⟨hc, h⟩
    · exact FRM.tr FRM.rf (frX3_isOpenTo_27 a1 a2 σ _ h)
    · cases h
      exact FRM.rf

def SX3_fits : List (Nat × Nat) := [(112, 115)]
theorem frX3_fits_153 {rf : Int32 → Int32 → PS → Option (Int32 × PS)} (hrf : ∀ (z0 : Int32) (z1 : Int32) (σ : PS) (r : Int32 × PS), rf z0 z1 σ = some r → FRM SX3_fits σ r.2) {r23 : Int32 → Int32 → Int32 → Int32 → PS → Option (Int32 × PS)} (hr_23 : ∀ (x1 : Int32) (x2 : Int32) (x3 : Int32) (x4 : Int32) (σ : PS) (r : Int32 × PS), r23 x1 x2 x3 x4 σ = some r → FRM SX3_fits σ r.2) (x1 : Int32) (x2 : Int32) (x3 : Int32) (x4 : Int32) (σ : PS) (r : Int32 × PS) (h : fX3_fits_153 rf r23 x1 x2 x3 x4 σ = some r) : FRM SX3_fits σ r.2 := by
  unfold fX3_fits_153 at h
  exact FRM.tr FRM.rf (hr_23 x1 x2 x3 (x4 + 1) σ _ h)
theorem frX3_fits_23 {rf : Int32 → Int32 → PS → Option (Int32 × PS)} (hrf : ∀ (z0 : Int32) (z1 : Int32) (σ : PS) (r : Int32 × PS), rf z0 z1 σ = some r → FRM SX3_fits σ r.2) : ∀ (n : Nat) (x1 : Int32) (x2 : Int32) (x3 : Int32) (x4 : Int32) (σ : PS) (r : Int32 × PS), fX3_fits_23 rf n x1 x2 x3 x4 σ = some r → FRM SX3_fits σ r.2 := by
  intro n
  induction n with
  | zero =>
    intro x1 x2 x3 x4 σ r h
    rw [fX3_fits_23] at h
    cases h
  | succ n ih =>
    intro x1 x2 x3 x4 σ r h
    rw [fX3_fits_23] at h
    obtain ⟨hi2, h⟩ := gd_some h
    rcases ite_some h with ⟨hc, h⟩ | ⟨hc, h⟩
    · cases h
      exact FRM.rf
    · rcases ite_some h with ⟨hc, h⟩ | ⟨hc, h⟩
      · cases h
        exact FRM.rf
      · obtain ⟨q3, e4, h⟩ := bind_some h
        try dsimp only at h
        have g5 := frX3_isOpenTo _ _ _ _ e4
        rcases ite_some h with ⟨hc, h⟩ | ⟨hc, h⟩
        · exact FRM.tr (FRM.tr FRM.rf (FRM.mono g5 (by decide))) (frX3_fits_153 hrf ih x1 x2 x3 x4 q3.2 _ h)
        · obtain ⟨hi6, h⟩ := gd_some h
          obtain ⟨hi7, h⟩ := gd_some h
          obtain ⟨hi8, h⟩ := gd_some h
          obtain ⟨hi9, h⟩ := gd_some h
          obtain ⟨hi10, h⟩ := gd_some h
          obtain ⟨hi11, h⟩ := gd_some h
          obtain ⟨hi12, h⟩ := gd_some h
          obtain ⟨hi13, h⟩ := gd_some h
          obtain ⟨q14, e15, h⟩ := bind_some h
          try dsimp only at h
          have g16 := hrf _ _ _ _ e15
          rcases ite_some h with ⟨hc, h⟩ | ⟨hc, h⟩
          · obtain ⟨hi17, h⟩ := gd_some h
            obtain ⟨hi18, h⟩ := gd_some h
            obtain ⟨hi19, h⟩ := gd_some h
            obtain ⟨hi20, h⟩ := gd_some h
            obtain ⟨hi21, h⟩ := gd_some h
            exact FRM.tr (FRM.i (FRM.i (FRM.tr (FRM.i (FRM.i (FRM.i (FRM.i (FRM.tr FRM.rf (FRM.mono g5 (by decide))) (by decide)) (by decide)) (by decide)) (by decide)) g16) (by decide)) (by decide)) (frX3_fits_153 hrf ih x1 x2 x3 x4 (sI (sI q14.2 113 (x4 : Int32).toNatClampNeg ((gi q14.2 113 (x4 : Int32).toNatClampNeg) - 1)) 114 (x4 : Int32).toNatClampNeg ((gi (sI q14.2 113 (x4 : Int32).toNatClampNeg ((gi q14.2 113 (x4 : Int32).toNatClampNeg) - 1)) 114 (x4 : Int32).toNatClampNeg) - (gi (sI q14.2 113 (x4 : Int32).toNatClampNeg ((gi q14.2 113 (x4 : Int32).toNatClampNeg) - 1)) 19 (x3 : Int32).toNatClampNeg))) _ h)
          · cases h
            exact (FRM.tr (FRM.i (FRM.i (FRM.i (FRM.i (FRM.tr FRM.rf (FRM.mono g5 (by decide))) (by decide)) (by decide)) (by decide)) (by decide)) g16)
theorem frgX3_fits {rf : Int32 → Int32 → PS → Option (Int32 × PS)} (hrf : ∀ (z0 : Int32) (z1 : Int32) (σ : PS) (r : Int32 × PS), rf z0 z1 σ = some r → FRM SX3_fits σ r.2) (a1 : Int32) (a2 : Int32) (σ : PS) (r : Int32 × PS) (h : gX3_fits rf a1 a2 σ = some r) : FRM SX3_fits σ r.2 := by
  unfold gX3_fits at h
  rcases ite_some h with ⟨hc, h⟩ | ⟨hc, h⟩
  · cases h
    exact FRM.rf
  · rcases ite_some h with ⟨hc, h⟩ | ⟨hc, h⟩
    · obtain ⟨hi1, h⟩ := gd_some h
      exact FRM.tr FRM.rf (frX3_fits_23 hrf FU a1 a2 (gi σ 111 (a1 : Int32).toNatClampNeg) 0 σ _ h)
    · cases h
      exact FRM.rf
theorem frX3_fits : ∀ (n : Nat) (a1 : Int32) (a2 : Int32) (σ : PS) (r : Int32 × PS), fX3_fits n a1 a2 σ = some r → FRM SX3_fits σ r.2 := by
  intro n
  induction n with
  | zero =>
    intro a1 a2 σ r h
    rw [fX3_fits] at h
    cases h
  | succ n ih =>
    intro a1 a2 σ r h
    rw [fX3_fits] at h
    exact frgX3_fits ih a1 a2 σ r h

def SX3_fitsAll : List (Nat × Nat) := [(112, 115)]
theorem frX3_fitsAll_2 : ∀ (n : Nat) (x1 : Int32) (x2 : Int32) (σ : PS) (r : Int32 × PS), fX3_fitsAll_2 n x1 x2 σ = some r → FRM SX3_fitsAll σ r.2 := by
  intro n
  induction n with
  | zero =>
    intro x1 x2 σ r h
    rw [fX3_fitsAll_2] at h
    cases h
  | succ n ih =>
    intro x1 x2 σ r h
    rw [fX3_fitsAll_2] at h
    rcases ite_some h with ⟨hc, h⟩ | ⟨hc, h⟩
    · obtain ⟨q1, e2, h⟩ := bind_some h
      try dsimp only at h
      have g3 := frX3_fits 8 _ _ _ _ e2
      obtain ⟨-, h⟩ := gd_some h
      cases h
      exact (FRM.tr FRM.rf (FRM.mono g3 (by decide)))
    · obtain ⟨hi4, h⟩ := gd_some h
      obtain ⟨hi5, h⟩ := gd_some h
      exact FRM.tr (FRM.i (FRM.i FRM.rf (by decide)) (by decide)) (ih x1 (x2 + 1) (sI (sI σ 113 (x2 : Int32).toNatClampNeg 0) 114 (x2 : Int32).toNatClampNeg 0) _ h)
theorem frX3_fitsAll (a1 : Int32) (σ : PS) (r : Int32 × PS) (h : fX3_fitsAll a1 σ = some r) : FRM SX3_fitsAll σ r.2 := by
  unfold fX3_fitsAll at h
  exact FRM.tr FRM.rf (frX3_fitsAll_2 FU a1 0 σ _ h)

def SX3_keepTrial : List (Nat × Nat) := [(110, 110)]
theorem frX3_keepTrial_2 : ∀ (n : Nat) (x1 : Int32) (σ : PS) (r : PS), fX3_keepTrial_2 n x1 σ = some r → FRM SX3_keepTrial σ r := by
  intro n
  induction n with
  | zero =>
    intro x1 σ r h
    rw [fX3_keepTrial_2] at h
    cases h
  | succ n ih =>
    intro x1 σ r h
    rw [fX3_keepTrial_2] at h
    rcases ite_some h with ⟨hc, h⟩ | ⟨hc, h⟩
    · cases h
      exact FRM.rf
    · rcases ite_some h with ⟨hc, h⟩ | ⟨hc, h⟩
      · cases h
        exact FRM.rf
      · obtain ⟨hi1, h⟩ := gd_some h
        obtain ⟨hi2, h⟩ := gd_some h
        obtain ⟨hi3, h⟩ := gd_some h
        exact FRM.tr (FRM.i FRM.rf (by decide)) (ih (x1 + 1) (sI σ 110 ((gi σ 111 (x1 : Int32).toNatClampNeg) : Int32).toNatClampNeg (gi σ 112 (x1 : Int32).toNatClampNeg)) _ h)
theorem frX3_keepTrial  (σ : PS) (r : PS) (h : fX3_keepTrial  σ = some r) : FRM SX3_keepTrial σ r := by
  unfold fX3_keepTrial at h
  exact FRM.tr FRM.rf (frX3_keepTrial_2 FU 0 σ _ h)

def SX3_lay : List (Nat × Nat) := [(107, 107), (110, 115)]
theorem frX3_lay_107 {r9 : Int32 → Int32 → PS → Option (PS)} (hr_9 : ∀ (x1 : Int32) (x2 : Int32) (σ : PS) (r : PS), r9 x1 x2 σ = some r → FRM SX3_lay σ r) (x1 : Int32) (x2 : Int32) (σ : PS) (r : PS) (h : fX3_lay_107 r9 x1 x2 σ = some r) : FRM SX3_lay σ r := by
  unfold fX3_lay_107 at h
  exact FRM.tr FRM.rf (hr_9 x1 (x2 + 1) σ _ h)
theorem frX3_lay_9 : ∀ (n : Nat) (x1 : Int32) (x2 : Int32) (σ : PS) (r : PS), fX3_lay_9 n x1 x2 σ = some r → FRM SX3_lay σ r := by
  intro n
  induction n with
  | zero =>
    intro x1 x2 σ r h
    rw [fX3_lay_9] at h
    cases h
  | succ n ih =>
    intro x1 x2 σ r h
    rw [fX3_lay_9] at h
    rcases ite_some h with ⟨hc, h⟩ | ⟨hc, h⟩
    · cases h
      exact FRM.rf
    · rcases ite_some h with ⟨hc, h⟩ | ⟨hc, h⟩
      · cases h
        exact FRM.rf
      · obtain ⟨hi1, h⟩ := gd_some h
        obtain ⟨hi2, h⟩ := gd_some h
        obtain ⟨hi3, h⟩ := gd_some h
        obtain ⟨hi4, h⟩ := gd_some h
        obtain ⟨hi5, h⟩ := gd_some h
        rcases ite_some h with ⟨hc, h⟩ | ⟨hc, h⟩
        · exact FRM.tr (FRM.i (FRM.i FRM.rf (by decide)) (by decide)) (frX3_lay_107 ih x1 x2 (sI (sI σ 110 ((gi σ 108 (x2 : Int32).toNatClampNeg) : Int32).toNatClampNeg (-1)) 111 ((gi (sI σ 110 ((gi σ 108 (x2 : Int32).toNatClampNeg) : Int32).toNatClampNeg (-1)) 107 6) : Int32).toNatClampNeg (gi σ 108 (x2 : Int32).toNatClampNeg)) _ h)
        · obtain ⟨q6, e7, h⟩ := bind_some h
          try dsimp only at h
          have g8 := frX3_fitsAll _ _ _ e7
          rcases ite_some h with ⟨hc, h⟩ | ⟨hc, h⟩
          · exact FRM.tr (FRM.tr (FRM.i (FRM.i FRM.rf (by decide)) (by decide)) (FRM.mono g8 (by decide))) (frX3_lay_107 ih x1 x2 q6.2 _ h)
          · obtain ⟨q9, e10, h⟩ := bind_some h
            try dsimp only at h
            have g11 := frX3_keepTrial _ _ e10
            exact FRM.tr (FRM.tr (FRM.i (FRM.tr (FRM.i (FRM.i FRM.rf (by decide)) (by decide)) (FRM.mono g8 (by decide))) (by decide)) (FRM.mono g11 (by decide))) (frX3_lay_107 ih (x1 + (gi σ 18 ((gi σ 108 (x2 : Int32).toNatClampNeg) : Int32).toNatClampNeg)) x2 q9 _ h)
theorem frX3_lay  (σ : PS) (r : PS) (h : fX3_lay  σ = some r) : FRM SX3_lay σ r := by
  unfold fX3_lay at h
  exact FRM.tr (FRM.i FRM.rf (by decide)) (frX3_lay_9 FU 0 0 (sI σ 107 6 0) _ h)

def SX3_open : List (Nat × Nat) := [(107, 107)]
theorem frX3_open (a1 : Int32) (σ : PS) (r : PS) (h : fX3_open a1 σ = some r) : FRM SX3_open σ r := by
  unfold fX3_open at h
  cases h
  exact (FRM.i (FRM.i FRM.rf (by decide)) (by decide))

def SX1_host : List (Nat × Nat) := [(51, 56), (58, 63), (65, 70), (93, 100), (107, 115)]
theorem frX1_host_224 {r102 : Int32 → Int32 → Int32 → Int32 → PS → Option (PS)} (hr_102 : ∀ (x1 : Int32) (x2 : Int32) (x3 : Int32) (x4 : Int32) (σ : PS) (r : PS), r102 x1 x2 x3 x4 σ = some r → FRM SX1_host σ r) (x1 : Int32) (x2 : Int32) (x3 : Int32) (x4 : Int32) (σ : PS) (r : PS) (h : fX1_host_224 r102 x1 x2 x3 x4 σ = some r) : FRM SX1_host σ r := by
  unfold fX1_host_224 at h
  exact FRM.tr FRM.rf (hr_102 x1 x2 x3 (x4 + 1) σ _ h)
theorem frX1_host_171 {r102 : Int32 → Int32 → Int32 → Int32 → PS → Option (PS)} (hr_102 : ∀ (x1 : Int32) (x2 : Int32) (x3 : Int32) (x4 : Int32) (σ : PS) (r : PS), r102 x1 x2 x3 x4 σ = some r → FRM SX1_host σ r) (x1 : Int32) (x2 : Int32) (x3 : Int32) (x4 : Int32) (x5 : Int32) (σ : PS) (r : PS) (h : fX1_host_171 r102 x1 x2 x3 x4 x5 σ = some r) : FRM SX1_host σ r := by
  unfold fX1_host_171 at h
  obtain ⟨hi28, h⟩ := gd_some h
  rcases ite_some h with ⟨hc, h⟩ | ⟨hc, h⟩
  · obtain ⟨hi29, h⟩ := gd_some h
    obtain ⟨hi30, h⟩ := gd_some h
    obtain ⟨hi31, h⟩ := gd_some h
    exact FRM.tr (FRM.i FRM.rf (inS_row (n := 6) (by decide) hi29)) (frX1_host_224 hr_102 x1 x2 x3 x4 (sI σ (rw_ 57 x5) (x2 : Int32).toNatClampNeg ((gi σ (rw_ 57 x5) (x2 : Int32).toNatClampNeg) + 1)) _ h)
  · obtain ⟨hi32, h⟩ := gd_some h
    obtain ⟨hi33, h⟩ := gd_some h
    obtain ⟨hi34, h⟩ := gd_some h
    exact FRM.tr (FRM.i FRM.rf (inS_row (n := 6) (by decide) hi33)) (frX1_host_224 hr_102 x1 x2 (x3 - (gi σ 18 (x5 : Int32).toNatClampNeg)) x4 (sI σ (rw_ 57 x5) (x2 : Int32).toNatClampNeg 0) _ h)
theorem frX1_host_102 : ∀ (n : Nat) (x1 : Int32) (x2 : Int32) (x3 : Int32) (x4 : Int32) (σ : PS) (r : PS), fX1_host_102 n x1 x2 x3 x4 σ = some r → FRM SX1_host σ r := by
  intro n
  induction n with
  | zero =>
    intro x1 x2 x3 x4 σ r h
    rw [fX1_host_102] at h
    cases h
  | succ n ih =>
    intro x1 x2 x3 x4 σ r h
    rw [fX1_host_102] at h
    rcases ite_some h with ⟨hc, h⟩ | ⟨hc, h⟩
    · obtain ⟨hi17, h⟩ := gd_some h
      obtain ⟨hi18, h⟩ := gd_some h
      cases h
      exact (FRM.i FRM.rf (inS_row (n := 8) (by decide) hi17))
    · obtain ⟨hi19, h⟩ := gd_some h
      obtain ⟨hi20, h⟩ := gd_some h
      obtain ⟨hi21, h⟩ := gd_some h
      obtain ⟨hi22, h⟩ := gd_some h
      obtain ⟨hi23, h⟩ := gd_some h
      obtain ⟨hi24, h⟩ := gd_some h
      rcases ite_some h with ⟨hc, h⟩ | ⟨hc, h⟩
      · obtain ⟨hi25, h⟩ := gd_some h
        obtain ⟨hi26, h⟩ := gd_some h
        obtain ⟨hi27, h⟩ := gd_some h
        exact FRM.tr (FRM.i (FRM.i FRM.rf (inS_row (n := 6) (by decide) hi20)) (inS_row (n := 6) (by decide) hi25)) (frX1_host_171 ih x1 x2 x3 x4 (gi σ 108 (x4 : Int32).toNatClampNeg) (sI (sI σ (rw_ 50 (gi σ 108 (x4 : Int32).toNatClampNeg)) (x2 : Int32).toNatClampNeg (gi σ 110 ((gi σ 108 (x4 : Int32).toNatClampNeg) : Int32).toNatClampNeg)) (rw_ 64 (gi σ 108 (x4 : Int32).toNatClampNeg)) (x2 : Int32).toNatClampNeg ((gi (sI σ (rw_ 50 (gi σ 108 (x4 : Int32).toNatClampNeg)) (x2 : Int32).toNatClampNeg (gi σ 110 ((gi σ 108 (x4 : Int32).toNatClampNeg) : Int32).toNatClampNeg)) (rw_ 64 (gi σ 108 (x4 : Int32).toNatClampNeg)) (x2 : Int32).toNatClampNeg) + 1)) _ h)
      · exact FRM.tr (FRM.i FRM.rf (inS_row (n := 6) (by decide) hi20)) (frX1_host_171 ih x1 x2 x3 x4 (gi σ 108 (x4 : Int32).toNatClampNeg) (sI σ (rw_ 50 (gi σ 108 (x4 : Int32).toNatClampNeg)) (x2 : Int32).toNatClampNeg (gi σ 110 ((gi σ 108 (x4 : Int32).toNatClampNeg) : Int32).toNatClampNeg)) _ h)
theorem frX1_host_80 (x1 : Int32) (x2 : Int32) (s0 : Int32) (σ : PS) (r : PS) (h : fX1_host_80 x1 x2 s0 σ = some r) : FRM SX1_host σ r := by
  unfold fX1_host_80 at h
  obtain ⟨hi16, h⟩ := gd_some h
  exact FRM.tr FRM.rf (frX1_host_102 FU x1 x2 (imin 200 (s0 + (gi σ 6 (x1 : Int32).toNatClampNeg))) 0 σ _ h)
theorem frX1_host_49 {r10 : Int32 → Int32 → Int32 → PS → Option (PS)} (hr_10 : ∀ (x1 : Int32) (x2 : Int32) (x3 : Int32) (σ : PS) (r : PS), r10 x1 x2 x3 σ = some r → FRM SX1_host σ r) (x1 : Int32) (x2 : Int32) (x3 : Int32) (σ : PS) (r : PS) (h : fX1_host_49 r10 x1 x2 x3 σ = some r) : FRM SX1_host σ r := by
  unfold fX1_host_49 at h
  exact FRM.tr FRM.rf (hr_10 x1 x2 (x3 + 1) σ _ h)
theorem frX1_host_10 : ∀ (n : Nat) (x1 : Int32) (x2 : Int32) (x3 : Int32) (σ : PS) (r : PS), fX1_host_10 n x1 x2 x3 σ = some r → FRM SX1_host σ r := by
  intro n
  induction n with
  | zero =>
    intro x1 x2 x3 σ r h
    rw [fX1_host_10] at h
    cases h
  | succ n ih =>
    intro x1 x2 x3 σ r h
    rw [fX1_host_10] at h
    rcases ite_some h with ⟨hc, h⟩ | ⟨hc, h⟩
    · obtain ⟨q4, e5, h⟩ := bind_some h
      try dsimp only at h
      have g6 := frX3_lay _ _ e5
      rcases ite_some h with ⟨hc, h⟩ | ⟨hc, h⟩
      · exact FRM.tr (FRM.tr FRM.rf (FRM.mono g6 (by decide))) (frX1_host_80 x1 x2 0 q4 _ h)
      · obtain ⟨hi7, h⟩ := gd_some h
        obtain ⟨hi8, h⟩ := gd_some h
        exact FRM.tr (FRM.tr FRM.rf (FRM.mono g6 (by decide))) (frX1_host_80 x1 x2 (gi q4 (rw_ 92 x1) ((x2 - 1) : Int32).toNatClampNeg) q4 _ h)
    · obtain ⟨hi9, h⟩ := gd_some h
      obtain ⟨hi10, h⟩ := gd_some h
      rcases ite_some h with ⟨hc, h⟩ | ⟨hc, h⟩
      · obtain ⟨hi11, h⟩ := gd_some h
        obtain ⟨hi12, h⟩ := gd_some h
        obtain ⟨q13, e14, h⟩ := bind_some h
        try dsimp only at h
        have g15 := frX3_admit _ _ _ _ e14
        exact FRM.tr (FRM.tr FRM.rf (FRM.mono g15 (by decide))) (frX1_host_49 ih x1 x2 x3 q13 _ h)
      · exact FRM.tr FRM.rf (frX1_host_49 ih x1 x2 x3 σ _ h)
theorem frX1_host (a1 : Int32) (a2 : Int32) (σ : PS) (r : PS) (h : fX1_host a1 a2 σ = some r) : FRM SX1_host σ r := by
  unfold fX1_host at h
  obtain ⟨q1, e2, h⟩ := bind_some h
  try dsimp only at h
  have g3 := frX3_open _ _ _ e2
  exact FRM.tr (FRM.tr FRM.rf (FRM.mono g3 (by decide))) (frX1_host_10 FU a1 a2 0 q1 _ h)

def SX1_setVars : List (Nat × Nat) := [(42, 42)]
theorem frX1_setVars (a1 : Int32) (a2 : Int32) (a3 : Int32) (σ : PS) (r : PS) (h : fX1_setVars a1 a2 a3 σ = some r) : FRM SX1_setVars σ r := by
  unfold fX1_setVars at h
  obtain ⟨hi1, h⟩ := gd_some h
  obtain ⟨hi2, h⟩ := gd_some h
  obtain ⟨hi3, h⟩ := gd_some h
  obtain ⟨hi4, h⟩ := gd_some h
  obtain ⟨hi5, h⟩ := gd_some h
  obtain ⟨hi6, h⟩ := gd_some h
  obtain ⟨hi7, h⟩ := gd_some h
  obtain ⟨hi8, h⟩ := gd_some h
  obtain ⟨hi9, h⟩ := gd_some h
  obtain ⟨hi10, h⟩ := gd_some h
  obtain ⟨hi11, h⟩ := gd_some h
  obtain ⟨hi12, h⟩ := gd_some h
  obtain ⟨hi13, h⟩ := gd_some h
  obtain ⟨hi14, h⟩ := gd_some h
  obtain ⟨hi15, h⟩ := gd_some h
  obtain ⟨hi16, h⟩ := gd_some h
  cases h
  exact (FRM.i (FRM.i (FRM.i (FRM.i (FRM.i (FRM.i (FRM.i (FRM.i FRM.rf (by decide)) (by decide)) (by decide)) (by decide)) (by decide)) (by decide)) (by decide)) (by decide))

def SX5_apply : List (Nat × Nat) := []
theorem frX5_apply (a0 : Int32) (a1 : Int32) (a2 : Int32) (σ : PS) (r : Int32 × PS) (h : fX5_apply a0 a1 a2 σ = some r) : FRM SX5_apply σ r.2 := by
  unfold fX5_apply at h
  rcases ite_some h with ⟨hc, h⟩ | ⟨hc, h⟩
  · cases h
    exact FRM.rf
  rcases ite_some h with ⟨hc, h⟩ | ⟨hc, h⟩
  · cases h
    exact FRM.rf
  rcases ite_some h with ⟨hc, h⟩ | ⟨hc, h⟩
  · cases h
    exact FRM.rf
  rcases ite_some h with ⟨hc, h⟩ | ⟨hc, h⟩
  · cases h
    exact FRM.rf
  rcases ite_some h with ⟨hc, h⟩ | ⟨hc, h⟩
  · cases h
    exact FRM.rf
  rcases ite_some h with ⟨hc, h⟩ | ⟨hc, h⟩
  · cases h
    exact FRM.rf
  rcases ite_some h with ⟨hc, h⟩ | ⟨hc, h⟩
  · cases h
    exact FRM.rf
  rcases ite_some h with ⟨hc, h⟩ | ⟨hc, h⟩
  · cases h
    exact FRM.rf
  rcases ite_some h with ⟨hc, h⟩ | ⟨hc, h⟩
  · cases h
    exact FRM.rf
  rcases ite_some h with ⟨hc, h⟩ | ⟨hc, h⟩
  · cases h
    exact FRM.rf
  rcases ite_some h with ⟨hc, h⟩ | ⟨hc, h⟩
  · cases h
    exact FRM.rf
  rcases ite_some h with ⟨hc, h⟩ | ⟨hc, h⟩
  · cases h
    exact FRM.rf
  rcases ite_some h with ⟨hc, h⟩ | ⟨hc, h⟩
  · cases h
    exact FRM.rf
  rcases ite_some h with ⟨hc, h⟩ | ⟨hc, h⟩
  · rcases ite_some h with ⟨hc, h⟩ | ⟨hc, h⟩
    · cases h
      exact FRM.rf
    · cases h
      exact FRM.rf
  rcases ite_some h with ⟨hc, h⟩ | ⟨hc, h⟩
  · rcases ite_some h with ⟨hc, h⟩ | ⟨hc, h⟩
    · cases h
      exact FRM.rf
    · cases h
      exact FRM.rf
  rcases ite_some h with ⟨hc, h⟩ | ⟨hc, h⟩
  · rcases ite_some h with ⟨hc, h⟩ | ⟨hc, h⟩
    · cases h
      exact FRM.rf
    · cases h
      exact FRM.rf
  rcases ite_some h with ⟨hc, h⟩ | ⟨hc, h⟩
  · rcases ite_some h with ⟨hc, h⟩ | ⟨hc, h⟩
    · cases h
      exact FRM.rf
    · cases h
      exact FRM.rf
  cases h
  exact FRM.rf

def SX5_run : List (Nat × Nat) := [(123, 123), (131, 131)]
theorem frX5_run_142 {b : Nat} (hb : isBk b = true) (x4 : Int32) (σ : PS) (r : Int32 × PS) (h : fX5_run_142 b x4 σ = some r) : FRM SX5_run σ r.2 := by
  unfold fX5_run_142 at h
  rcases ite_some h with ⟨hc, h⟩ | ⟨hc, h⟩
  · cases h
    exact FRM.rf
  · obtain ⟨hi15, h⟩ := gd_some h
    cases h
    exact FRM.rf
theorem frX5_run_136 {b : Nat} (hb : isBk b = true) {r10 : Int32 → Int32 → Int32 → PS → Option (Int32 × PS)} (hr_10 : ∀ (x2 : Int32) (x4 : Int32) (x5 : Int32) (σ : PS) (r : Int32 × PS), r10 x2 x4 x5 σ = some r → FRM SX5_run σ r.2) (x2 : Int32) (x4 : Int32) (x5 : Int32) (σ : PS) (r : Int32 × PS) (h : fX5_run_136 b r10 x2 x4 x5 σ = some r) : FRM SX5_run σ r.2 := by
  unfold fX5_run_136 at h
  exact FRM.tr FRM.rf (hr_10 x2 x4 (x5 + 1) σ _ h)
theorem frX5_run_84 {b : Nat} (hb : isBk b = true) {r10 : Int32 → Int32 → Int32 → PS → Option (Int32 × PS)} (hr_10 : ∀ (x2 : Int32) (x4 : Int32) (x5 : Int32) (σ : PS) (r : Int32 × PS), r10 x2 x4 x5 σ = some r → FRM SX5_run σ r.2) (x2 : Int32) (x4 : Int32) (x5 : Int32) (s1 : Int32) (s2 : Int32) (σ : PS) (r : Int32 × PS) (h : fX5_run_84 b r10 x2 x4 x5 s1 s2 σ = some r) : FRM SX5_run σ r.2 := by
  unfold fX5_run_84 at h
  obtain ⟨hi16, h⟩ := gd_some h
  exact FRM.tr (FRM.i FRM.rf (inS_bk 7 hb (by decide) (by decide))) (frX5_run_136 hb hr_10 x2 (x4 + 1) x5 (sI σ (b + 7) (s1 : Int32).toNatClampNeg s2) _ h)
theorem frX5_run_57 {b : Nat} (hb : isBk b = true) {r10 : Int32 → Int32 → Int32 → PS → Option (Int32 × PS)} (hr_10 : ∀ (x2 : Int32) (x4 : Int32) (x5 : Int32) (σ : PS) (r : Int32 × PS), r10 x2 x4 x5 σ = some r → FRM SX5_run σ r.2) (x2 : Int32) (x4 : Int32) (x5 : Int32) (x6 : Int32) (x7 : Int32) (σ : PS) (r : Int32 × PS) (h : fX5_run_57 b r10 x2 x4 x5 x6 x7 σ = some r) : FRM SX5_run σ r.2 := by
  unfold fX5_run_57 at h
  rcases ite_some h with ⟨hc, h⟩ | ⟨hc, h⟩
  · exact FRM.tr FRM.rf (frX5_run_136 hb hr_10 x2 x4 x5 σ _ h)
  · rcases ite_some h with ⟨hc, h⟩ | ⟨hc, h⟩
    · obtain ⟨hi14, h⟩ := gd_some h
      exact FRM.tr FRM.rf (frX5_run_84 hb hr_10 x2 x4 x5 x4 (gi σ 42 (x7 : Int32).toNatClampNeg) σ _ h)
    · exact FRM.tr FRM.rf (frX5_run_84 hb hr_10 x2 x4 x5 x4 x6 σ _ h)
theorem frX5_run_10 {b : Nat} (hb : isBk b = true) : ∀ (n : Nat) (x2 : Int32) (x4 : Int32) (x5 : Int32) (σ : PS) (r : Int32 × PS), fX5_run_10 b n x2 x4 x5 σ = some r → FRM SX5_run σ r.2 := by
  intro n
  induction n with
  | zero =>
    intro x2 x4 x5 σ r h
    rw [fX5_run_10] at h
    cases h
  | succ n ih =>
    intro x2 x4 x5 σ r h
    rw [fX5_run_10] at h
    rcases ite_some h with ⟨hc, h⟩ | ⟨hc, h⟩
    · exact FRM.tr FRM.rf (frX5_run_142 hb x4 σ _ h)
    · rcases ite_some h with ⟨hc, h⟩ | ⟨hc, h⟩
      · exact FRM.tr FRM.rf (frX5_run_142 hb x4 σ _ h)
      · obtain ⟨hi1, h⟩ := gd_some h
        rcases ite_some h with ⟨hc, h⟩ | ⟨hc, h⟩
        · exact FRM.tr FRM.rf (frX5_run_57 hb ih x2 x4 x5 (gi σ (b + 6) (x5 : Int32).toNatClampNeg) ((-(gi σ (b + 6) (x5 : Int32).toNatClampNeg)) - 9) σ _ h)
        · obtain ⟨q2, e3, h⟩ := bind_some h
          try dsimp only at h
          have g4 := frX8_isWithin _ _ _ _ _ e3
          rcases ite_some h with ⟨hc, h⟩ | ⟨hc, h⟩
          · obtain ⟨q5, e6, h⟩ := bind_some h
            try dsimp only at h
            have g7 := frX8_isWithin _ _ _ _ _ e6
            rcases ite_some h with ⟨hc, h⟩ | ⟨hc, h⟩
            · exact FRM.tr (FRM.tr (FRM.tr FRM.rf (FRM.mono g4 (by decide))) (FRM.mono g7 (by decide))) (frX5_run_136 hb ih x2 x4 x5 q5.2 _ h)
            · obtain ⟨hi8, h⟩ := gd_some h
              obtain ⟨hi9, h⟩ := gd_some h
              obtain ⟨q10, e11, h⟩ := bind_some h
              try dsimp only at h
              have g12 := frX5_apply _ _ _ _ _ e11
              obtain ⟨hi13, h⟩ := gd_some h
              exact FRM.tr (FRM.i (FRM.tr (FRM.tr (FRM.tr FRM.rf (FRM.mono g4 (by decide))) (FRM.mono g7 (by decide))) (FRM.mono g12 (by decide))) (inS_bk 7 hb (by decide) (by decide))) (frX5_run_136 hb ih x2 (x4 + (-1)) x5 (sI q10.2 (b + 7) (((x4 + (-1)) - 1) : Int32).toNatClampNeg q10.1) _ h)
          · exact FRM.tr (FRM.tr FRM.rf (FRM.mono g4 (by decide))) (frX5_run_57 hb ih x2 x4 x5 (gi σ (b + 6) (x5 : Int32).toNatClampNeg) ((-(gi σ (b + 6) (x5 : Int32).toNatClampNeg)) - 9) q2.2 _ h)
theorem frX5_run {b : Nat} (hb : isBk b = true) (a1 : Int32) (a2 : Int32) (σ : PS) (r : Int32 × PS) (h : fX5_run b a1 a2 σ = some r) : FRM SX5_run σ r.2 := by
  unfold fX5_run at h
  exact FRM.tr FRM.rf (frX5_run_10 hb FU a2 0 (imax 0 a1) σ _ h)

def SX5_firstThatHolds : List (Nat × Nat) := [(123, 123), (131, 131)]
theorem frX5_firstThatHolds_83 {b : Nat} (hb : isBk b = true) {r3 : Int32 → Int32 → Int32 → PS → Option (Int32 × PS)} (hr_3 : ∀ (x1 : Int32) (x2 : Int32) (x4 : Int32) (σ : PS) (r : Int32 × PS), r3 x1 x2 x4 σ = some r → FRM SX5_firstThatHolds σ r.2) (x1 : Int32) (x2 : Int32) (x4 : Int32) (σ : PS) (r : Int32 × PS) (h : fX5_firstThatHolds_83 b r3 x1 x2 x4 σ = some r) : FRM SX5_firstThatHolds σ r.2 := by
  unfold fX5_firstThatHolds_83 at h
  exact FRM.tr FRM.rf (hr_3 x1 x2 (x4 + 1) σ _ h)
theorem frX5_firstThatHolds_3 {b : Nat} (hb : isBk b = true) : ∀ (n : Nat) (x1 : Int32) (x2 : Int32) (x4 : Int32) (σ : PS) (r : Int32 × PS), fX5_firstThatHolds_3 b n x1 x2 x4 σ = some r → FRM SX5_firstThatHolds σ r.2 := by
  intro n
  induction n with
  | zero =>
    intro x1 x2 x4 σ r h
    rw [fX5_firstThatHolds_3] at h
    cases h
  | succ n ih =>
    intro x1 x2 x4 σ r h
    rw [fX5_firstThatHolds_3] at h
    rcases ite_some h with ⟨hc, h⟩ | ⟨hc, h⟩
    · cases h
      exact FRM.rf
    · rcases ite_some h with ⟨hc, h⟩ | ⟨hc, h⟩
      · cases h
        exact FRM.rf
      · obtain ⟨hi1, h⟩ := gd_some h
        rcases ite_some h with ⟨hc, h⟩ | ⟨hc, h⟩
        · obtain ⟨hi2, h⟩ := gd_some h
          rcases ite_some h with ⟨hc, h⟩ | ⟨hc, h⟩
          · obtain ⟨hi3, h⟩ := gd_some h
            obtain ⟨hi4, h⟩ := gd_some h
            rcases ite_some h with ⟨hc, h⟩ | ⟨hc, h⟩
            · cases h
              exact FRM.rf
            · obtain ⟨hi5, h⟩ := gd_some h
              obtain ⟨hi6, h⟩ := gd_some h
              obtain ⟨q7, e8, h⟩ := bind_some h
              try dsimp only at h
              have g9 := frX5_run hb _ _ _ _ e8
              rcases ite_some h with ⟨hc, h⟩ | ⟨hc, h⟩
              · exact FRM.tr (FRM.tr FRM.rf (FRM.mono g9 (by decide))) (frX5_firstThatHolds_83 hb ih x1 x2 x4 q7.2 _ h)
              · cases h
                exact (FRM.tr FRM.rf (FRM.mono g9 (by decide)))
          · exact FRM.tr FRM.rf (frX5_firstThatHolds_83 hb ih x1 x2 x4 σ _ h)
        · exact FRM.tr FRM.rf (frX5_firstThatHolds_83 hb ih x1 x2 x4 σ _ h)
theorem frX5_firstThatHolds {b : Nat} (hb : isBk b = true) (a1 : Int32) (a2 : Int32) (σ : PS) (r : Int32 × PS) (h : fX5_firstThatHolds b a1 a2 σ = some r) : FRM SX5_firstThatHolds σ r.2 := by
  unfold fX5_firstThatHolds at h
  exact FRM.tr FRM.rf (frX5_firstThatHolds_3 hb FU a1 a2 0 σ _ h)

def SX5_value : List (Nat × Nat) := [(123, 123), (131, 131)]
theorem frX5_value {b : Nat} (hb : isBk b = true) (a1 : Int32) (a2 : Int32) (σ : PS) (r : Int32 × PS) (h : fX5_value b a1 a2 σ = some r) : FRM SX5_value σ r.2 := by
  unfold fX5_value at h
  obtain ⟨q1, e2, h⟩ := bind_some h
  try dsimp only at h
  have g3 := frX5_firstThatHolds hb _ _ _ _ e2
  obtain ⟨q4, e5, h⟩ := bind_some h
  try dsimp only at h
  have g6 := frX8_isWithin _ _ _ _ _ e5
  rcases ite_some h with ⟨hc, h⟩ | ⟨hc, h⟩
  · cases h
    exact (FRM.tr (FRM.tr FRM.rf (FRM.mono g3 (by decide))) (FRM.mono g6 (by decide)))
  · obtain ⟨hi7, h⟩ := gd_some h
    obtain ⟨hi8, h⟩ := gd_some h
    obtain ⟨q9, e10, h⟩ := bind_some h
    try dsimp only at h
    have g11 := frX5_run hb _ _ _ _ e10
    cases h
    exact (FRM.tr (FRM.tr (FRM.tr FRM.rf (FRM.mono g3 (by decide))) (FRM.mono g6 (by decide))) (FRM.mono g11 (by decide)))

def SX1_evening : List (Nat × Nat) := [(42, 42), (44, 49), (51, 56), (58, 63), (65, 70), (79, 84), (93, 100), (107, 115), (123, 123), (131, 131)]
theorem frX1_evening_95 {b : Nat} (hb : isBk b = true) : ∀ (n : Nat) (x2 : Int32) (x3 : Int32) (σ : PS) (r : PS), fX1_evening_95 b n x2 x3 σ = some r → FRM SX1_evening σ r := by
  intro n
  induction n with
  | zero =>
    intro x2 x3 σ r h
    rw [fX1_evening_95] at h
    cases h
  | succ n ih =>
    intro x2 x3 σ r h
    rw [fX1_evening_95] at h
    rcases ite_some h with ⟨hc, h⟩ | ⟨hc, h⟩
    · cases h
      exact FRM.rf
    · obtain ⟨q17, e18, h⟩ := bind_some h
      try dsimp only at h
      have g19 := frX1_host _ _ _ _ e18
      exact FRM.tr (FRM.tr FRM.rf (FRM.mono g19 (by decide))) (ih x2 (x3 + 1) q17 _ h)
theorem frX1_evening_87 {b : Nat} (hb : isBk b = true) {r2 : Int32 → Int32 → PS → Option (PS)} (hr_2 : ∀ (x2 : Int32) (x3 : Int32) (σ : PS) (r : PS), r2 x2 x3 σ = some r → FRM SX1_evening σ r) (x2 : Int32) (x3 : Int32) (σ : PS) (r : PS) (h : fX1_evening_87 b r2 x2 x3 σ = some r) : FRM SX1_evening σ r := by
  unfold fX1_evening_87 at h
  exact FRM.tr FRM.rf (hr_2 x2 (x3 + 1) σ _ h)
theorem frX1_evening_43 {b : Nat} (hb : isBk b = true) {r2 : Int32 → Int32 → PS → Option (PS)} (hr_2 : ∀ (x2 : Int32) (x3 : Int32) (σ : PS) (r : PS), r2 x2 x3 σ = some r → FRM SX1_evening σ r) (x2 : Int32) (x3 : Int32) (σ : PS) (r : PS) (h : fX1_evening_43 b r2 x2 x3 σ = some r) : FRM SX1_evening σ r := by
  unfold fX1_evening_43 at h
  obtain ⟨hi5, h⟩ := gd_some h
  obtain ⟨hi6, h⟩ := gd_some h
  rcases ite_some h with ⟨hc, h⟩ | ⟨hc, h⟩
  · exact FRM.tr FRM.rf (frX1_evening_87 hb hr_2 x2 x3 σ _ h)
  · obtain ⟨hi7, h⟩ := gd_some h
    obtain ⟨hi8, h⟩ := gd_some h
    obtain ⟨q9, e10, h⟩ := bind_some h
    try dsimp only at h
    have g11 := frX1_setVars _ _ _ _ _ e10
    obtain ⟨hi12, h⟩ := gd_some h
    obtain ⟨q13, e14, h⟩ := bind_some h
    try dsimp only at h
    have g15 := frX5_value hb _ _ _ _ e14
    obtain ⟨hi16, h⟩ := gd_some h
    exact FRM.tr (FRM.i (FRM.tr (FRM.tr FRM.rf (FRM.mono g11 (by decide))) (FRM.mono g15 (by decide))) (inS_row (n := 6) (by decide) hi12)) (frX1_evening_87 hb hr_2 x2 x3 (sI q13.2 (rw_ 78 x3) (x2 : Int32).toNatClampNeg q13.1) _ h)
theorem frX1_evening_2 {b : Nat} (hb : isBk b = true) : ∀ (n : Nat) (x2 : Int32) (x3 : Int32) (σ : PS) (r : PS), fX1_evening_2 b n x2 x3 σ = some r → FRM SX1_evening σ r := by
  intro n
  induction n with
  | zero =>
    intro x2 x3 σ r h
    rw [fX1_evening_2] at h
    cases h
  | succ n ih =>
    intro x2 x3 σ r h
    rw [fX1_evening_2] at h
    rcases ite_some h with ⟨hc, h⟩ | ⟨hc, h⟩
    · exact FRM.tr FRM.rf (frX1_evening_95 hb FU x2 0 σ _ h)
    · obtain ⟨hi1, h⟩ := gd_some h
      rcases ite_some h with ⟨hc, h⟩ | ⟨hc, h⟩
      · obtain ⟨hi2, h⟩ := gd_some h
        obtain ⟨hi3, h⟩ := gd_some h
        obtain ⟨hi4, h⟩ := gd_some h
        exact FRM.tr (FRM.i FRM.rf (inS_row (n := 6) (by decide) hi2)) (frX1_evening_43 hb ih x2 x3 (sI σ (rw_ 43 x3) (x2 : Int32).toNatClampNeg (gi σ 20 (x3 : Int32).toNatClampNeg)) _ h)
      · exact FRM.tr FRM.rf (frX1_evening_43 hb ih x2 x3 σ _ h)
theorem frX1_evening {b : Nat} (hb : isBk b = true) (a2 : Int32) (σ : PS) (r : PS) (h : fX1_evening b a2 σ = some r) : FRM SX1_evening σ r := by
  unfold fX1_evening at h
  exact FRM.tr FRM.rf (frX1_evening_2 hb FU a2 0 σ _ h)

def SX0_isShut : List (Nat × Nat) := []
theorem frX0_isShut (a1 : Int32) (a2 : Int32) (a3 : Int32) (σ : PS) (r : Int32 × PS) (h : fX0_isShut a1 a2 a3 σ = some r) : FRM SX0_isShut σ r.2 := by
  unfold fX0_isShut at h
  obtain ⟨hi1, h⟩ := gd_some h
  obtain ⟨hi2, h⟩ := gd_some h
  obtain ⟨q3, e4, h⟩ := bind_some h
  try dsimp only at h
  have g5 := frX8_isWithin _ _ _ _ _ e4
  obtain ⟨-, h⟩ := gd_some h
  cases h
  exact (FRM.tr FRM.rf (FRM.mono g5 (by decide)))

def SX1_pay : List (Nat × Nat) := [(72, 77), (102, 106)]
theorem frX1_pay (a1 : Int32) (a2 : Int32) (a3 : Int32) (a4 : Int32) (σ : PS) (r : PS) (h : fX1_pay a1 a2 a3 a4 σ = some r) : FRM SX1_pay σ r := by
  unfold fX1_pay at h
  rcases ite_some h with ⟨hc, h⟩ | ⟨hc, h⟩
  · cases h
    exact FRM.rf
  · obtain ⟨hi1, h⟩ := gd_some h
    obtain ⟨hi2, h⟩ := gd_some h
    obtain ⟨hi3, h⟩ := gd_some h
    obtain ⟨hi4, h⟩ := gd_some h
    obtain ⟨hi5, h⟩ := gd_some h
    obtain ⟨hi6, h⟩ := gd_some h
    cases h
    exact (FRM.i (FRM.i FRM.rf (inS_row (n := 6) (by decide) hi1)) (inS_row (n := 5) (by decide) hi4))

def SX1_goOn : List (Nat × Nat) := [(42, 42), (44, 49), (72, 77), (86, 91), (102, 106), (123, 123), (131, 131)]
theorem frX1_goOn_35 {b : Nat} (hb : isBk b = true) (x2 : Int32) (x3 : Int32) (x4 : Int32) (x5 : Int32) (s0 : Int32) (σ : PS) (r : PS) (h : fX1_goOn_35 b x2 x3 x4 x5 s0 σ = some r) : FRM SX1_goOn σ r := by
  unfold fX1_goOn_35 at h
  obtain ⟨q4, e5, h⟩ := bind_some h
  try dsimp only at h
  have g6 := frX2_hasInn _ _ _ e5
  rcases ite_some h with ⟨hc, h⟩ | ⟨hc, h⟩
  · cases h
    exact (FRM.tr FRM.rf (FRM.mono g6 (by decide)))
  · obtain ⟨q7, e8, h⟩ := bind_some h
    try dsimp only at h
    have g9 := frX2_hasInn _ _ _ e8
    rcases ite_some h with ⟨hc, h⟩ | ⟨hc, h⟩
    · cases h
      exact (FRM.tr (FRM.tr FRM.rf (FRM.mono g6 (by decide))) (FRM.mono g9 (by decide)))
    · obtain ⟨q10, e11, h⟩ := bind_some h
      try dsimp only at h
      have g12 := frX1_setVars _ _ _ _ _ e11
      obtain ⟨hi13, h⟩ := gd_some h
      obtain ⟨q14, e15, h⟩ := bind_some h
      try dsimp only at h
      have g16 := frX5_firstThatHolds hb _ _ _ _ e15
      obtain ⟨hi17, h⟩ := gd_some h
      obtain ⟨hi18, h⟩ := gd_some h
      rcases ite_some h with ⟨hc, h⟩ | ⟨hc, h⟩
      · obtain ⟨q19, e20, h⟩ := bind_some h
        try dsimp only at h
        have g21 := frX0_isShut _ _ _ _ _ e20
        rcases ite_some h with ⟨hc, h⟩ | ⟨hc, h⟩
        · obtain ⟨hi22, h⟩ := gd_some h
          obtain ⟨hi23, h⟩ := gd_some h
          rcases ite_some h with ⟨hc, h⟩ | ⟨hc, h⟩
          · cases h
            exact (FRM.tr (FRM.i (FRM.tr (FRM.tr (FRM.tr (FRM.tr FRM.rf (FRM.mono g6 (by decide))) (FRM.mono g9 (by decide))) (FRM.mono g12 (by decide))) (FRM.mono g16 (by decide))) (inS_row (n := 6) (by decide) hi17)) (FRM.mono g21 (by decide)))
          · obtain ⟨hi24, h⟩ := gd_some h
            obtain ⟨hi25, h⟩ := gd_some h
            obtain ⟨hi26, h⟩ := gd_some h
            obtain ⟨hi27, h⟩ := gd_some h
            rcases ite_some h with ⟨hc, h⟩ | ⟨hc, h⟩
            · cases h
              exact (FRM.i (FRM.tr (FRM.i (FRM.tr (FRM.tr (FRM.tr (FRM.tr FRM.rf (FRM.mono g6 (by decide))) (FRM.mono g9 (by decide))) (FRM.mono g12 (by decide))) (FRM.mono g16 (by decide))) (inS_row (n := 6) (by decide) hi17)) (FRM.mono g21 (by decide))) (inS_row (n := 6) (by decide) hi24))
            · obtain ⟨hi28, h⟩ := gd_some h
              obtain ⟨hi29, h⟩ := gd_some h
              obtain ⟨q30, e31, h⟩ := bind_some h
              try dsimp only at h
              have g32 := frX5_value hb _ _ _ _ e31
              obtain ⟨q33, e34, h⟩ := bind_some h
              try dsimp only at h
              have g35 := frX1_pay _ _ _ _ _ _ e34
              cases h
              exact (FRM.tr (FRM.tr (FRM.i (FRM.tr (FRM.i (FRM.tr (FRM.tr (FRM.tr (FRM.tr FRM.rf (FRM.mono g6 (by decide))) (FRM.mono g9 (by decide))) (FRM.mono g12 (by decide))) (FRM.mono g16 (by decide))) (inS_row (n := 6) (by decide) hi17)) (FRM.mono g21 (by decide))) (inS_row (n := 6) (by decide) hi24)) (FRM.mono g32 (by decide))) (FRM.mono g35 (by decide)))
        · cases h
          exact (FRM.tr (FRM.i (FRM.tr (FRM.tr (FRM.tr (FRM.tr FRM.rf (FRM.mono g6 (by decide))) (FRM.mono g9 (by decide))) (FRM.mono g12 (by decide))) (FRM.mono g16 (by decide))) (inS_row (n := 6) (by decide) hi17)) (FRM.mono g21 (by decide)))
      · cases h
        exact (FRM.i (FRM.tr (FRM.tr (FRM.tr (FRM.tr FRM.rf (FRM.mono g6 (by decide))) (FRM.mono g9 (by decide))) (FRM.mono g12 (by decide))) (FRM.mono g16 (by decide))) (inS_row (n := 6) (by decide) hi17))
theorem frX1_goOn {b : Nat} (hb : isBk b = true) (a2 : Int32) (a3 : Int32) (a4 : Int32) (σ : PS) (r : PS) (h : fX1_goOn b a2 a3 a4 σ = some r) : FRM SX1_goOn σ r := by
  unfold fX1_goOn at h
  obtain ⟨hi1, h⟩ := gd_some h
  obtain ⟨hi2, h⟩ := gd_some h
  obtain ⟨hi3, h⟩ := gd_some h
  rcases ite_some h with ⟨hc, h⟩ | ⟨hc, h⟩
  · exact FRM.tr FRM.rf (frX1_goOn_35 hb a2 a3 a4 (gi σ (rw_ 43 a2) (a3 : Int32).toNatClampNeg) ((gi σ (rw_ 43 a2) (a3 : Int32).toNatClampNeg) - 1) σ _ h)
  · exact FRM.tr FRM.rf (frX1_goOn_35 hb a2 a3 a4 (gi σ (rw_ 43 a2) (a3 : Int32).toNatClampNeg) ((gi σ (rw_ 43 a2) (a3 : Int32).toNatClampNeg) + 1) σ _ h)

def SX1_wake : List (Nat × Nat) := [(44, 49), (51, 56), (58, 63), (65, 70), (72, 77), (79, 84), (86, 91)]
theorem frX1_wake_131 (x1 : Int32) (x2 : Int32) (q0 : Int32) (s1 : Int32) (s2 : Int32) (σ : PS) (hq0 : inb q0 6 = true) (r : PS) (h : fX1_wake_131 x1 x2 q0 s1 s2 σ = some r) : FRM SX1_wake σ r := by
  unfold fX1_wake_131 at h
  obtain ⟨hi19, h⟩ := gd_some h
  obtain ⟨hi20, h⟩ := gd_some h
  obtain ⟨hi21, h⟩ := gd_some h
  obtain ⟨hi22, h⟩ := gd_some h
  obtain ⟨hi23, h⟩ := gd_some h
  cases h
  exact (FRM.i (FRM.i (FRM.i FRM.rf (inS_row (n := 6) (by decide) hq0)) (inS_row (n := 6) (by decide) hi20)) (inS_row (n := 6) (by decide) hi22))
theorem frX1_wake_105 (x1 : Int32) (x2 : Int32) (q0 : Int32) (s1 : Int32) (s2 : Int32) (σ : PS) (hq0 : inb q0 6 = true) (r : PS) (h : fX1_wake_105 x1 x2 q0 s1 s2 σ = some r) : FRM SX1_wake σ r := by
  unfold fX1_wake_105 at h
  obtain ⟨hi15, h⟩ := gd_some h
  obtain ⟨hi16, h⟩ := gd_some h
  rcases ite_some h with ⟨hc, h⟩ | ⟨hc, h⟩
  · exact FRM.tr (FRM.i FRM.rf (inS_row (n := 6) (by decide) hq0)) (frX1_wake_131 x1 x2 x1 x2 0 (sI σ (rw_ 64 q0) (s1 : Int32).toNatClampNeg s2) hi16 _ h)
  · obtain ⟨hi17, h⟩ := gd_some h
    obtain ⟨hi18, h⟩ := gd_some h
    exact FRM.tr (FRM.i FRM.rf (inS_row (n := 6) (by decide) hq0)) (frX1_wake_131 x1 x2 x1 x2 (gi (sI σ (rw_ 64 q0) (s1 : Int32).toNatClampNeg s2) (rw_ 71 x1) ((x2 - 1) : Int32).toNatClampNeg) (sI σ (rw_ 64 q0) (s1 : Int32).toNatClampNeg s2) hi16 _ h)
theorem frX1_wake_79 (x1 : Int32) (x2 : Int32) (q0 : Int32) (s1 : Int32) (s2 : Int32) (σ : PS) (hq0 : inb q0 6 = true) (r : PS) (h : fX1_wake_79 x1 x2 q0 s1 s2 σ = some r) : FRM SX1_wake σ r := by
  unfold fX1_wake_79 at h
  obtain ⟨hi11, h⟩ := gd_some h
  obtain ⟨hi12, h⟩ := gd_some h
  rcases ite_some h with ⟨hc, h⟩ | ⟨hc, h⟩
  · exact FRM.tr (FRM.i FRM.rf (inS_row (n := 6) (by decide) hq0)) (frX1_wake_105 x1 x2 x1 x2 0 (sI σ (rw_ 57 q0) (s1 : Int32).toNatClampNeg s2) hi12 _ h)
  · obtain ⟨hi13, h⟩ := gd_some h
    obtain ⟨hi14, h⟩ := gd_some h
    exact FRM.tr (FRM.i FRM.rf (inS_row (n := 6) (by decide) hq0)) (frX1_wake_105 x1 x2 x1 x2 (gi (sI σ (rw_ 57 q0) (s1 : Int32).toNatClampNeg s2) (rw_ 64 x1) ((x2 - 1) : Int32).toNatClampNeg) (sI σ (rw_ 57 q0) (s1 : Int32).toNatClampNeg s2) hi12 _ h)
theorem frX1_wake_44 (x1 : Int32) (x2 : Int32) (q0 : Int32) (s1 : Int32) (s2 : Int32) (σ : PS) (hq0 : inb q0 6 = true) (r : PS) (h : fX1_wake_44 x1 x2 q0 s1 s2 σ = some r) : FRM SX1_wake σ r := by
  unfold fX1_wake_44 at h
  obtain ⟨hi5, h⟩ := gd_some h
  obtain ⟨hi6, h⟩ := gd_some h
  obtain ⟨hi7, h⟩ := gd_some h
  obtain ⟨hi8, h⟩ := gd_some h
  rcases ite_some h with ⟨hc, h⟩ | ⟨hc, h⟩
  · exact FRM.tr (FRM.i (FRM.i FRM.rf (inS_row (n := 6) (by decide) hq0)) (inS_row (n := 6) (by decide) hi6)) (frX1_wake_79 x1 x2 x1 x2 0 (sI (sI σ (rw_ 43 q0) (s1 : Int32).toNatClampNeg s2) (rw_ 50 x1) (x2 : Int32).toNatClampNeg (-1)) hi8 _ h)
  · obtain ⟨hi9, h⟩ := gd_some h
    obtain ⟨hi10, h⟩ := gd_some h
    exact FRM.tr (FRM.i (FRM.i FRM.rf (inS_row (n := 6) (by decide) hq0)) (inS_row (n := 6) (by decide) hi6)) (frX1_wake_79 x1 x2 x1 x2 (gi (sI (sI σ (rw_ 43 q0) (s1 : Int32).toNatClampNeg s2) (rw_ 50 x1) (x2 : Int32).toNatClampNeg (-1)) (rw_ 57 x1) ((x2 - 1) : Int32).toNatClampNeg) (sI (sI σ (rw_ 43 q0) (s1 : Int32).toNatClampNeg s2) (rw_ 50 x1) (x2 : Int32).toNatClampNeg (-1)) hi8 _ h)
theorem frX1_wake_18 (x1 : Int32) (x2 : Int32) (s0 : Int32) (σ : PS) (r : PS) (h : fX1_wake_18 x1 x2 s0 σ = some r) : FRM SX1_wake σ r := by
  unfold fX1_wake_18 at h
  obtain ⟨hi3, h⟩ := gd_some h
  obtain ⟨hi4, h⟩ := gd_some h
  rcases ite_some h with ⟨hc, h⟩ | ⟨hc, h⟩
  · exact FRM.tr FRM.rf (frX1_wake_44 x1 x2 x1 x2 (-1) σ hi3 _ h)
  · exact FRM.tr FRM.rf (frX1_wake_44 x1 x2 x1 x2 s0 σ hi3 _ h)
theorem frX1_wake (a1 : Int32) (a2 : Int32) (σ : PS) (r : PS) (h : fX1_wake a1 a2 σ = some r) : FRM SX1_wake σ r := by
  unfold fX1_wake at h
  rcases ite_some h with ⟨hc, h⟩ | ⟨hc, h⟩
  · exact FRM.tr FRM.rf (frX1_wake_18 a1 a2 (-1) σ _ h)
  · obtain ⟨hi1, h⟩ := gd_some h
    obtain ⟨hi2, h⟩ := gd_some h
    exact FRM.tr FRM.rf (frX1_wake_18 a1 a2 (gi σ (rw_ 43 a1) ((a2 - 1) : Int32).toNatClampNeg) σ _ h)

def SX1_morning : List (Nat × Nat) := [(42, 42), (44, 49), (51, 56), (58, 63), (65, 70), (72, 77), (79, 84), (86, 91), (102, 106), (123, 123), (131, 131)]
theorem frX1_morning_87 {b : Nat} (hb : isBk b = true) {r46 : Int32 → Int32 → Int32 → PS → Option (PS)} (hr_46 : ∀ (x2 : Int32) (x3 : Int32) (x4 : Int32) (σ : PS) (r : PS), r46 x2 x3 x4 σ = some r → FRM SX1_morning σ r) (x2 : Int32) (x3 : Int32) (x4 : Int32) (σ : PS) (r : PS) (h : fX1_morning_87 b r46 x2 x3 x4 σ = some r) : FRM SX1_morning σ r := by
  unfold fX1_morning_87 at h
  exact FRM.tr FRM.rf (hr_46 x2 x3 (x4 + 1) σ _ h)
theorem frX1_morning_46 {b : Nat} (hb : isBk b = true) : ∀ (n : Nat) (x2 : Int32) (x3 : Int32) (x4 : Int32) (σ : PS) (r : PS), fX1_morning_46 b n x2 x3 x4 σ = some r → FRM SX1_morning σ r := by
  intro n
  induction n with
  | zero =>
    intro x2 x3 x4 σ r h
    rw [fX1_morning_46] at h
    cases h
  | succ n ih =>
    intro x2 x3 x4 σ r h
    rw [fX1_morning_46] at h
    rcases ite_some h with ⟨hc, h⟩ | ⟨hc, h⟩
    · cases h
      exact FRM.rf
    · obtain ⟨q5, e6, h⟩ := bind_some h
      try dsimp only at h
      have g7 := frX1_wake _ _ _ _ e6
      obtain ⟨hi8, h⟩ := gd_some h
      obtain ⟨hi9, h⟩ := gd_some h
      rcases ite_some h with ⟨hc, h⟩ | ⟨hc, h⟩
      · exact FRM.tr (FRM.tr FRM.rf (FRM.mono g7 (by decide))) (frX1_morning_87 hb ih x2 x3 x4 q5 _ h)
      · obtain ⟨q10, e11, h⟩ := bind_some h
        try dsimp only at h
        have g12 := frX1_goOn hb _ _ _ _ _ e11
        exact FRM.tr (FRM.tr (FRM.tr FRM.rf (FRM.mono g7 (by decide))) (FRM.mono g12 (by decide))) (frX1_morning_87 hb ih x2 x3 x4 q10 _ h)
theorem frX1_morning_36 {b : Nat} (hb : isBk b = true) {r3 : Int32 → Int32 → Int32 → PS → Option (PS)} (hr_3 : ∀ (x2 : Int32) (x3 : Int32) (x4 : Int32) (σ : PS) (r : PS), r3 x2 x3 x4 σ = some r → FRM SX1_morning σ r) (x2 : Int32) (x3 : Int32) (x4 : Int32) (q0 : Int32) (s1 : Int32) (s2 : Int32) (σ : PS) (hq0 : inb q0 5 = true) (r : PS) (h : fX1_morning_36 b r3 x2 x3 x4 q0 s1 s2 σ = some r) : FRM SX1_morning σ r := by
  unfold fX1_morning_36 at h
  obtain ⟨hi4, h⟩ := gd_some h
  exact FRM.tr (FRM.i FRM.rf (inS_row (n := 5) (by decide) hq0)) (hr_3 x2 x3 (x4 + 1) (sI σ (rw_ 101 q0) (s1 : Int32).toNatClampNeg s2) _ h)
theorem frX1_morning_3 {b : Nat} (hb : isBk b = true) : ∀ (n : Nat) (x2 : Int32) (x3 : Int32) (x4 : Int32) (σ : PS) (r : PS), fX1_morning_3 b n x2 x3 x4 σ = some r → FRM SX1_morning σ r := by
  intro n
  induction n with
  | zero =>
    intro x2 x3 x4 σ r h
    rw [fX1_morning_3] at h
    cases h
  | succ n ih =>
    intro x2 x3 x4 σ r h
    rw [fX1_morning_3] at h
    rcases ite_some h with ⟨hc, h⟩ | ⟨hc, h⟩
    · exact FRM.tr FRM.rf (frX1_morning_46 hb FU x2 x3 0 σ _ h)
    · obtain ⟨hi1, h⟩ := gd_some h
      rcases ite_some h with ⟨hc, h⟩ | ⟨hc, h⟩
      · exact FRM.tr FRM.rf (frX1_morning_36 hb ih x2 x3 x4 x4 x2 0 σ hi1 _ h)
      · obtain ⟨hi2, h⟩ := gd_some h
        obtain ⟨hi3, h⟩ := gd_some h
        exact FRM.tr FRM.rf (frX1_morning_36 hb ih x2 x3 x4 x4 x2 (gi σ (rw_ 101 x4) ((x2 - 1) : Int32).toNatClampNeg) σ hi1 _ h)
theorem frX1_morning {b : Nat} (hb : isBk b = true) (a2 : Int32) (a3 : Int32) (σ : PS) (r : PS) (h : fX1_morning b a2 a3 σ = some r) : FRM SX1_morning σ r := by
  unfold fX1_morning at h
  exact FRM.tr FRM.rf (frX1_morning_3 hb FU a2 a3 0 σ _ h)

def SX1_walk : List (Nat × Nat) := [(41, 42), (44, 49), (51, 56), (58, 63), (65, 70), (72, 77), (79, 84), (86, 91), (93, 100), (102, 115), (123, 123), (131, 131)]
theorem frX1_walk_26 {b : Nat} (hb : isBk b = true) : ∀ (n : Nat) (x2 : Int32) (x4 : Int32) (σ : PS) (r : PS), fX1_walk_26 b n x2 x4 σ = some r → FRM SX1_walk σ r := by
  intro n
  induction n with
  | zero =>
    intro x2 x4 σ r h
    rw [fX1_walk_26] at h
    cases h
  | succ n ih =>
    intro x2 x4 σ r h
    rw [fX1_walk_26] at h
    rcases ite_some h with ⟨hc, h⟩ | ⟨hc, h⟩
    · cases h
      exact FRM.rf
    · obtain ⟨q4, e5, h⟩ := bind_some h
      try dsimp only at h
      have g6 := frX1_morning hb _ _ _ _ e5
      obtain ⟨q7, e8, h⟩ := bind_some h
      try dsimp only at h
      have g9 := frX1_evening hb _ _ _ e8
      exact FRM.tr (FRM.tr (FRM.tr FRM.rf (FRM.mono g6 (by decide))) (FRM.mono g9 (by decide))) (ih x2 (x4 + 1) q7 _ h)
theorem frX1_walk {b : Nat} (hb : isBk b = true) (a2 : Int32) (σ : PS) (r : PS) (h : fX1_walk b a2 σ = some r) : FRM SX1_walk σ r := by
  unfold fX1_walk at h
  obtain ⟨q1, e2, h⟩ := bind_some h
  try dsimp only at h
  have g3 := frX0_shutsAmong _ _ _ e2
  rcases ite_some h with ⟨hc, h⟩ | ⟨hc, h⟩
  · cases h
    exact (FRM.tr FRM.rf (FRM.mono g3 (by decide)))
  · exact FRM.tr (FRM.i (FRM.tr FRM.rf (FRM.mono g3 (by decide))) (by decide)) (frX1_walk_26 hb FU a2 0 (sI q1.2 41 13 q1.1) _ h)

def SX8_state : List (Nat × Nat) := [(41, 42), (44, 49), (51, 56), (58, 63), (65, 70), (72, 77), (79, 84), (86, 91), (93, 100), (102, 115), (123, 123), (131, 131)]
theorem frX8_state (a1 : Int32) (a2 : Int32) (a3 : Int32) (a4 : Int32) (σ : PS) (r : Int32 × PS) (h : fX8_state a1 a2 a3 a4 σ = some r) : FRM SX8_state σ r.2 := by
  unfold fX8_state at h
  obtain ⟨q1, e2, h⟩ := bind_some h
  try dsimp only at h
  have g3 := frX2_hasCaravan _ _ _ e2
  rcases ite_some h with ⟨hc, h⟩ | ⟨hc, h⟩
  · cases h
    exact (FRM.tr FRM.rf (FRM.mono g3 (by decide)))
  · obtain ⟨q4, e5, h⟩ := bind_some h
    try dsimp only at h
    have g6 := frX8_isDay _ _ _ e5
    rcases ite_some h with ⟨hc, h⟩ | ⟨hc, h⟩
    · cases h
      exact (FRM.tr (FRM.tr FRM.rf (FRM.mono g3 (by decide))) (FRM.mono g6 (by decide)))
    · obtain ⟨q7, e8, h⟩ := bind_some h
      try dsimp only at h
      have g9 := frX0_isKnown _ _ _ e8
      rcases ite_some h with ⟨hc, h⟩ | ⟨hc, h⟩
      · cases h
        exact (FRM.tr (FRM.tr (FRM.tr FRM.rf (FRM.mono g3 (by decide))) (FRM.mono g6 (by decide))) (FRM.mono g9 (by decide)))
      · obtain ⟨hb10, h⟩ := gd_some h
        obtain ⟨q11, e12, h⟩ := bind_some h
        try dsimp only at h
        have g13 := frX1_walk hb10 _ _ _ e12
        rcases ite_some h with ⟨hc, h⟩ | ⟨hc, h⟩
        · obtain ⟨hi14, h⟩ := gd_some h
          obtain ⟨hi15, h⟩ := gd_some h
          cases h
          exact (FRM.tr (FRM.tr (FRM.tr (FRM.tr FRM.rf (FRM.mono g3 (by decide))) (FRM.mono g6 (by decide))) (FRM.mono g9 (by decide))) (FRM.mono g13 (by decide)))
        rcases ite_some h with ⟨hc, h⟩ | ⟨hc, h⟩
        · obtain ⟨hi16, h⟩ := gd_some h
          obtain ⟨hi17, h⟩ := gd_some h
          cases h
          exact (FRM.tr (FRM.tr (FRM.tr (FRM.tr FRM.rf (FRM.mono g3 (by decide))) (FRM.mono g6 (by decide))) (FRM.mono g9 (by decide))) (FRM.mono g13 (by decide)))
        rcases ite_some h with ⟨hc, h⟩ | ⟨hc, h⟩
        · obtain ⟨hi18, h⟩ := gd_some h
          obtain ⟨hi19, h⟩ := gd_some h
          cases h
          exact (FRM.tr (FRM.tr (FRM.tr (FRM.tr FRM.rf (FRM.mono g3 (by decide))) (FRM.mono g6 (by decide))) (FRM.mono g9 (by decide))) (FRM.mono g13 (by decide)))
        rcases ite_some h with ⟨hc, h⟩ | ⟨hc, h⟩
        · obtain ⟨hi20, h⟩ := gd_some h
          obtain ⟨hi21, h⟩ := gd_some h
          cases h
          exact (FRM.tr (FRM.tr (FRM.tr (FRM.tr FRM.rf (FRM.mono g3 (by decide))) (FRM.mono g6 (by decide))) (FRM.mono g9 (by decide))) (FRM.mono g13 (by decide)))
        rcases ite_some h with ⟨hc, h⟩ | ⟨hc, h⟩
        · obtain ⟨hi22, h⟩ := gd_some h
          obtain ⟨hi23, h⟩ := gd_some h
          cases h
          exact (FRM.tr (FRM.tr (FRM.tr (FRM.tr FRM.rf (FRM.mono g3 (by decide))) (FRM.mono g6 (by decide))) (FRM.mono g9 (by decide))) (FRM.mono g13 (by decide)))
        rcases ite_some h with ⟨hc, h⟩ | ⟨hc, h⟩
        · obtain ⟨q24, e25, h⟩ := bind_some h
          try dsimp only at h
          have g26 := frX1_isOutside _ _ _ _ e25
          rcases ite_some h with ⟨hc, h⟩ | ⟨hc, h⟩
          · cases h
            exact (FRM.tr (FRM.tr (FRM.tr (FRM.tr (FRM.tr FRM.rf (FRM.mono g3 (by decide))) (FRM.mono g6 (by decide))) (FRM.mono g9 (by decide))) (FRM.mono g13 (by decide))) (FRM.mono g26 (by decide)))
          · cases h
            exact (FRM.tr (FRM.tr (FRM.tr (FRM.tr (FRM.tr FRM.rf (FRM.mono g3 (by decide))) (FRM.mono g6 (by decide))) (FRM.mono g9 (by decide))) (FRM.mono g13 (by decide))) (FRM.mono g26 (by decide)))
        rcases ite_some h with ⟨hc, h⟩ | ⟨hc, h⟩
        · obtain ⟨hi27, h⟩ := gd_some h
          obtain ⟨hi28, h⟩ := gd_some h
          cases h
          exact (FRM.tr (FRM.tr (FRM.tr (FRM.tr FRM.rf (FRM.mono g3 (by decide))) (FRM.mono g6 (by decide))) (FRM.mono g9 (by decide))) (FRM.mono g13 (by decide)))
        cases h
        exact (FRM.tr (FRM.tr (FRM.tr (FRM.tr FRM.rf (FRM.mono g3 (by decide))) (FRM.mono g6 (by decide))) (FRM.mono g9 (by decide))) (FRM.mono g13 (by decide)))

def SX1_beastsInStalls : List (Nat × Nat) := []
theorem frX1_beastsInStalls_56 {r5 : Int32 → Int32 → Int32 → Int32 → PS → Option (Int32 × PS)} (hr_5 : ∀ (x1 : Int32) (x2 : Int32) (x3 : Int32) (x4 : Int32) (σ : PS) (r : Int32 × PS), r5 x1 x2 x3 x4 σ = some r → FRM SX1_beastsInStalls σ r.2) (x1 : Int32) (x2 : Int32) (x3 : Int32) (x4 : Int32) (σ : PS) (r : Int32 × PS) (h : fX1_beastsInStalls_56 r5 x1 x2 x3 x4 σ = some r) : FRM SX1_beastsInStalls σ r.2 := by
  unfold fX1_beastsInStalls_56 at h
  exact FRM.tr FRM.rf (hr_5 x1 x2 x3 (x4 + 1) σ _ h)
theorem frX1_beastsInStalls_5 : ∀ (n : Nat) (x1 : Int32) (x2 : Int32) (x3 : Int32) (x4 : Int32) (σ : PS) (r : Int32 × PS), fX1_beastsInStalls_5 n x1 x2 x3 x4 σ = some r → FRM SX1_beastsInStalls σ r.2 := by
  intro n
  induction n with
  | zero =>
    intro x1 x2 x3 x4 σ r h
    rw [fX1_beastsInStalls_5] at h
    cases h
  | succ n ih =>
    intro x1 x2 x3 x4 σ r h
    rw [fX1_beastsInStalls_5] at h
    rcases ite_some h with ⟨hc, h⟩ | ⟨hc, h⟩
    · cases h
      exact FRM.rf
    · obtain ⟨hi1, h⟩ := gd_some h
      obtain ⟨hi2, h⟩ := gd_some h
      rcases ite_some h with ⟨hc, h⟩ | ⟨hc, h⟩
      · obtain ⟨hi3, h⟩ := gd_some h
        obtain ⟨hi4, h⟩ := gd_some h
        rcases ite_some h with ⟨hc, h⟩ | ⟨hc, h⟩
        · exact FRM.tr FRM.rf (frX1_beastsInStalls_56 ih x1 x2 x3 x4 σ _ h)
        · obtain ⟨hi5, h⟩ := gd_some h
          exact FRM.tr FRM.rf (frX1_beastsInStalls_56 ih x1 x2 (x3 + (gi σ 18 (x4 : Int32).toNatClampNeg)) x4 σ _ h)
      · exact FRM.tr FRM.rf (frX1_beastsInStalls_56 ih x1 x2 x3 x4 σ _ h)
theorem frX1_beastsInStalls (a1 : Int32) (a2 : Int32) (σ : PS) (r : Int32 × PS) (h : fX1_beastsInStalls a1 a2 σ = some r) : FRM SX1_beastsInStalls σ r.2 := by
  unfold fX1_beastsInStalls at h
  exact FRM.tr FRM.rf (frX1_beastsInStalls_5 FU a1 a2 0 0 σ _ h)

def SX1_guests : List (Nat × Nat) := []
theorem frX1_guests_56 {r6 : Int32 → Int32 → Int32 → Int32 → Int32 → PS → Option (Int32 × PS)} (hr_6 : ∀ (x1 : Int32) (x2 : Int32) (x3 : Int32) (x4 : Int32) (x5 : Int32) (σ : PS) (r : Int32 × PS), r6 x1 x2 x3 x4 x5 σ = some r → FRM SX1_guests σ r.2) (x1 : Int32) (x2 : Int32) (x3 : Int32) (x4 : Int32) (x5 : Int32) (σ : PS) (r : Int32 × PS) (h : fX1_guests_56 r6 x1 x2 x3 x4 x5 σ = some r) : FRM SX1_guests σ r.2 := by
  unfold fX1_guests_56 at h
  exact FRM.tr FRM.rf (hr_6 x1 x2 x3 x4 (x5 + 1) σ _ h)
theorem frX1_guests_49 {r6 : Int32 → Int32 → Int32 → Int32 → Int32 → PS → Option (Int32 × PS)} (hr_6 : ∀ (x1 : Int32) (x2 : Int32) (x3 : Int32) (x4 : Int32) (x5 : Int32) (σ : PS) (r : Int32 × PS), r6 x1 x2 x3 x4 x5 σ = some r → FRM SX1_guests σ r.2) (x1 : Int32) (x2 : Int32) (x3 : Int32) (x4 : Int32) (x5 : Int32) (s0 : Int32) (σ : PS) (r : Int32 × PS) (h : fX1_guests_49 r6 x1 x2 x3 x4 x5 s0 σ = some r) : FRM SX1_guests σ r.2 := by
  unfold fX1_guests_49 at h
  rcases ite_some h with ⟨hc, h⟩ | ⟨hc, h⟩
  · exact FRM.tr FRM.rf (frX1_guests_56 hr_6 x1 x2 x3 (x4 + 1) x5 σ _ h)
  · exact FRM.tr FRM.rf (frX1_guests_56 hr_6 x1 x2 x3 x4 x5 σ _ h)
theorem frX1_guests_6 : ∀ (n : Nat) (x1 : Int32) (x2 : Int32) (x3 : Int32) (x4 : Int32) (x5 : Int32) (σ : PS) (r : Int32 × PS), fX1_guests_6 n x1 x2 x3 x4 x5 σ = some r → FRM SX1_guests σ r.2 := by
  intro n
  induction n with
  | zero =>
    intro x1 x2 x3 x4 x5 σ r h
    rw [fX1_guests_6] at h
    cases h
  | succ n ih =>
    intro x1 x2 x3 x4 x5 σ r h
    rw [fX1_guests_6] at h
    rcases ite_some h with ⟨hc, h⟩ | ⟨hc, h⟩
    · cases h
      exact FRM.rf
    · obtain ⟨hi1, h⟩ := gd_some h
      obtain ⟨hi2, h⟩ := gd_some h
      rcases ite_some h with ⟨hc, h⟩ | ⟨hc, h⟩
      · obtain ⟨hi3, h⟩ := gd_some h
        obtain ⟨hi4, h⟩ := gd_some h
        rcases ite_some h with ⟨hc, h⟩ | ⟨hc, h⟩
        · exact FRM.tr FRM.rf (frX1_guests_49 ih x1 x2 x3 x4 x5 0 σ _ h)
        · exact FRM.tr FRM.rf (frX1_guests_49 ih x1 x2 x3 x4 x5 1 σ _ h)
      · exact FRM.tr FRM.rf (frX1_guests_56 ih x1 x2 x3 x4 x5 σ _ h)
theorem frX1_guests (a1 : Int32) (a2 : Int32) (a3 : Int32) (σ : PS) (r : Int32 × PS) (h : fX1_guests a1 a2 a3 σ = some r) : FRM SX1_guests σ r.2 := by
  unfold fX1_guests at h
  exact FRM.tr FRM.rf (frX1_guests_6 FU a1 a2 a3 0 0 σ _ h)

def SX8_house : List (Nat × Nat) := [(41, 42), (44, 49), (51, 56), (58, 63), (65, 70), (72, 77), (79, 84), (86, 91), (93, 100), (102, 115), (123, 123), (131, 131)]
theorem frX8_house (a1 : Int32) (a2 : Int32) (a3 : Int32) (a4 : Int32) (σ : PS) (r : Int32 × PS) (h : fX8_house a1 a2 a3 a4 σ = some r) : FRM SX8_house σ r.2 := by
  unfold fX8_house at h
  obtain ⟨q1, e2, h⟩ := bind_some h
  try dsimp only at h
  have g3 := frX2_hasInn _ _ _ e2
  rcases ite_some h with ⟨hc, h⟩ | ⟨hc, h⟩
  · cases h
    exact (FRM.tr FRM.rf (FRM.mono g3 (by decide)))
  · obtain ⟨q4, e5, h⟩ := bind_some h
    try dsimp only at h
    have g6 := frX8_isDay _ _ _ e5
    rcases ite_some h with ⟨hc, h⟩ | ⟨hc, h⟩
    · cases h
      exact (FRM.tr (FRM.tr FRM.rf (FRM.mono g3 (by decide))) (FRM.mono g6 (by decide)))
    · obtain ⟨q7, e8, h⟩ := bind_some h
      try dsimp only at h
      have g9 := frX0_isKnown _ _ _ e8
      rcases ite_some h with ⟨hc, h⟩ | ⟨hc, h⟩
      · cases h
        exact (FRM.tr (FRM.tr (FRM.tr FRM.rf (FRM.mono g3 (by decide))) (FRM.mono g6 (by decide))) (FRM.mono g9 (by decide)))
      · obtain ⟨hb10, h⟩ := gd_some h
        obtain ⟨q11, e12, h⟩ := bind_some h
        try dsimp only at h
        have g13 := frX1_walk hb10 _ _ _ e12
        rcases ite_some h with ⟨hc, h⟩ | ⟨hc, h⟩
        · obtain ⟨q14, e15, h⟩ := bind_some h
          try dsimp only at h
          have g16 := frX1_beastsInStalls _ _ _ _ e15
          cases h
          exact (FRM.tr (FRM.tr (FRM.tr (FRM.tr (FRM.tr FRM.rf (FRM.mono g3 (by decide))) (FRM.mono g6 (by decide))) (FRM.mono g9 (by decide))) (FRM.mono g13 (by decide))) (FRM.mono g16 (by decide)))
        rcases ite_some h with ⟨hc, h⟩ | ⟨hc, h⟩
        · obtain ⟨hi17, h⟩ := gd_some h
          obtain ⟨hi18, h⟩ := gd_some h
          cases h
          exact (FRM.tr (FRM.tr (FRM.tr (FRM.tr FRM.rf (FRM.mono g3 (by decide))) (FRM.mono g6 (by decide))) (FRM.mono g9 (by decide))) (FRM.mono g13 (by decide)))
        rcases ite_some h with ⟨hc, h⟩ | ⟨hc, h⟩
        · obtain ⟨q19, e20, h⟩ := bind_some h
          try dsimp only at h
          have g21 := frX1_guests _ _ _ _ _ e20
          cases h
          exact (FRM.tr (FRM.tr (FRM.tr (FRM.tr (FRM.tr FRM.rf (FRM.mono g3 (by decide))) (FRM.mono g6 (by decide))) (FRM.mono g9 (by decide))) (FRM.mono g13 (by decide))) (FRM.mono g21 (by decide)))
        rcases ite_some h with ⟨hc, h⟩ | ⟨hc, h⟩
        · obtain ⟨q22, e23, h⟩ := bind_some h
          try dsimp only at h
          have g24 := frX1_guests _ _ _ _ _ e23
          cases h
          exact (FRM.tr (FRM.tr (FRM.tr (FRM.tr (FRM.tr FRM.rf (FRM.mono g3 (by decide))) (FRM.mono g6 (by decide))) (FRM.mono g9 (by decide))) (FRM.mono g13 (by decide))) (FRM.mono g24 (by decide)))
        cases h
        exact (FRM.tr (FRM.tr (FRM.tr (FRM.tr FRM.rf (FRM.mono g3 (by decide))) (FRM.mono g6 (by decide))) (FRM.mono g9 (by decide))) (FRM.mono g13 (by decide)))

def SX1_guardsInRoom : List (Nat × Nat) := []
theorem frX1_guardsInRoom_59 {r6 : Int32 → Int32 → Int32 → Int32 → Int32 → PS → Option (Int32 × PS)} (hr_6 : ∀ (x1 : Int32) (x2 : Int32) (x3 : Int32) (x4 : Int32) (x5 : Int32) (σ : PS) (r : Int32 × PS), r6 x1 x2 x3 x4 x5 σ = some r → FRM SX1_guardsInRoom σ r.2) (x1 : Int32) (x2 : Int32) (x3 : Int32) (x4 : Int32) (x5 : Int32) (σ : PS) (r : Int32 × PS) (h : fX1_guardsInRoom_59 r6 x1 x2 x3 x4 x5 σ = some r) : FRM SX1_guardsInRoom σ r.2 := by
  unfold fX1_guardsInRoom_59 at h
  exact FRM.tr FRM.rf (hr_6 x1 x2 x3 x4 (x5 + 1) σ _ h)
theorem frX1_guardsInRoom_6 : ∀ (n : Nat) (x1 : Int32) (x2 : Int32) (x3 : Int32) (x4 : Int32) (x5 : Int32) (σ : PS) (r : Int32 × PS), fX1_guardsInRoom_6 n x1 x2 x3 x4 x5 σ = some r → FRM SX1_guardsInRoom σ r.2 := by
  intro n
  induction n with
  | zero =>
    intro x1 x2 x3 x4 x5 σ r h
    rw [fX1_guardsInRoom_6] at h
    cases h
  | succ n ih =>
    intro x1 x2 x3 x4 x5 σ r h
    rw [fX1_guardsInRoom_6] at h
    rcases ite_some h with ⟨hc, h⟩ | ⟨hc, h⟩
    · cases h
      exact FRM.rf
    · obtain ⟨hi1, h⟩ := gd_some h
      obtain ⟨hi2, h⟩ := gd_some h
      rcases ite_some h with ⟨hc, h⟩ | ⟨hc, h⟩
      · obtain ⟨hi3, h⟩ := gd_some h
        obtain ⟨hi4, h⟩ := gd_some h
        rcases ite_some h with ⟨hc, h⟩ | ⟨hc, h⟩
        · obtain ⟨hi5, h⟩ := gd_some h
          exact FRM.tr FRM.rf (frX1_guardsInRoom_59 ih x1 x2 x3 (x4 + (gi σ 19 (x5 : Int32).toNatClampNeg)) x5 σ _ h)
        · exact FRM.tr FRM.rf (frX1_guardsInRoom_59 ih x1 x2 x3 x4 x5 σ _ h)
      · exact FRM.tr FRM.rf (frX1_guardsInRoom_59 ih x1 x2 x3 x4 x5 σ _ h)
theorem frX1_guardsInRoom (a1 : Int32) (a2 : Int32) (a3 : Int32) (σ : PS) (r : Int32 × PS) (h : fX1_guardsInRoom a1 a2 a3 σ = some r) : FRM SX1_guardsInRoom σ r.2 := by
  unfold fX1_guardsInRoom at h
  exact FRM.tr FRM.rf (frX1_guardsInRoom_6 FU a1 a2 a3 0 0 σ _ h)

def SX8_full : List (Nat × Nat) := [(41, 42), (44, 49), (51, 56), (58, 63), (65, 70), (72, 77), (79, 84), (86, 91), (93, 100), (102, 115), (123, 123), (131, 131)]
theorem frX8_full (a1 : Int32) (a2 : Int32) (a3 : Int32) (a4 : Int32) (σ : PS) (r : Int32 × PS) (h : fX8_full a1 a2 a3 a4 σ = some r) : FRM SX8_full σ r.2 := by
  unfold fX8_full at h
  obtain ⟨q1, e2, h⟩ := bind_some h
  try dsimp only at h
  have g3 := frX2_hasInn _ _ _ e2
  rcases ite_some h with ⟨hc, h⟩ | ⟨hc, h⟩
  · cases h
    exact (FRM.tr FRM.rf (FRM.mono g3 (by decide)))
  · obtain ⟨hi4, h⟩ := gd_some h
    obtain ⟨q5, e6, h⟩ := bind_some h
    try dsimp only at h
    have g7 := frX8_isWithin _ _ _ _ _ e6
    rcases ite_some h with ⟨hc, h⟩ | ⟨hc, h⟩
    · cases h
      exact (FRM.tr (FRM.tr FRM.rf (FRM.mono g3 (by decide))) (FRM.mono g7 (by decide)))
    · obtain ⟨q8, e9, h⟩ := bind_some h
      try dsimp only at h
      have g10 := frX8_isDay _ _ _ e9
      rcases ite_some h with ⟨hc, h⟩ | ⟨hc, h⟩
      · cases h
        exact (FRM.tr (FRM.tr (FRM.tr FRM.rf (FRM.mono g3 (by decide))) (FRM.mono g7 (by decide))) (FRM.mono g10 (by decide)))
      · obtain ⟨q11, e12, h⟩ := bind_some h
        try dsimp only at h
        have g13 := frX0_isKnown _ _ _ e12
        rcases ite_some h with ⟨hc, h⟩ | ⟨hc, h⟩
        · cases h
          exact (FRM.tr (FRM.tr (FRM.tr (FRM.tr FRM.rf (FRM.mono g3 (by decide))) (FRM.mono g7 (by decide))) (FRM.mono g10 (by decide))) (FRM.mono g13 (by decide)))
        · obtain ⟨hb14, h⟩ := gd_some h
          obtain ⟨q15, e16, h⟩ := bind_some h
          try dsimp only at h
          have g17 := frX1_walk hb14 _ _ _ e16
          obtain ⟨q18, e19, h⟩ := bind_some h
          try dsimp only at h
          have g20 := frX1_guardsInRoom _ _ _ _ _ e19
          cases h
          exact (FRM.tr (FRM.tr (FRM.tr (FRM.tr (FRM.tr (FRM.tr FRM.rf (FRM.mono g3 (by decide))) (FRM.mono g7 (by decide))) (FRM.mono g10 (by decide))) (FRM.mono g13 (by decide))) (FRM.mono g17 (by decide))) (FRM.mono g20 (by decide)))

def SX8_comes : List (Nat × Nat) := [(41, 42), (44, 49), (51, 56), (58, 63), (65, 70), (72, 77), (79, 84), (86, 91), (93, 100), (102, 115), (123, 123), (131, 131)]
theorem frX8_comes_38 : ∀ (n : Nat) (x1 : Int32) (x3 : Int32) (σ : PS) (r : Int32 × PS), fX8_comes_38 n x1 x3 σ = some r → FRM SX8_comes σ r.2 := by
  intro n
  induction n with
  | zero =>
    intro x1 x3 σ r h
    rw [fX8_comes_38] at h
    cases h
  | succ n ih =>
    intro x1 x3 σ r h
    rw [fX8_comes_38] at h
    rcases ite_some h with ⟨hc, h⟩ | ⟨hc, h⟩
    · cases h
      exact FRM.rf
    · obtain ⟨hi11, h⟩ := gd_some h
      obtain ⟨hi12, h⟩ := gd_some h
      obtain ⟨hi13, h⟩ := gd_some h
      rcases ite_some h with ⟨hc, h⟩ | ⟨hc, h⟩
      · cases h
        exact FRM.rf
      · exact FRM.tr FRM.rf (ih x1 (x3 + 1) σ _ h)
theorem frX8_comes (a1 : Int32) (a2 : Int32) (σ : PS) (r : Int32 × PS) (h : fX8_comes a1 a2 σ = some r) : FRM SX8_comes σ r.2 := by
  unfold fX8_comes at h
  obtain ⟨q1, e2, h⟩ := bind_some h
  try dsimp only at h
  have g3 := frX2_hasCaravan _ _ _ e2
  rcases ite_some h with ⟨hc, h⟩ | ⟨hc, h⟩
  · cases h
    exact (FRM.tr FRM.rf (FRM.mono g3 (by decide)))
  · obtain ⟨q4, e5, h⟩ := bind_some h
    try dsimp only at h
    have g6 := frX0_isKnown _ _ _ e5
    rcases ite_some h with ⟨hc, h⟩ | ⟨hc, h⟩
    · cases h
      exact (FRM.tr (FRM.tr FRM.rf (FRM.mono g3 (by decide))) (FRM.mono g6 (by decide)))
    · obtain ⟨hb7, h⟩ := gd_some h
      obtain ⟨q8, e9, h⟩ := bind_some h
      try dsimp only at h
      have g10 := frX1_walk hb7 _ _ _ e9
      exact FRM.tr (FRM.tr (FRM.tr (FRM.tr FRM.rf (FRM.mono g3 (by decide))) (FRM.mono g6 (by decide))) (FRM.mono g10 (by decide))) (frX8_comes_38 FU a1 0 q8 _ h)

def SX8_barred : List (Nat × Nat) := [(41, 42), (44, 49), (51, 56), (58, 63), (65, 70), (72, 77), (79, 84), (86, 91), (93, 100), (102, 115), (123, 123), (131, 131)]
theorem frX8_barred (a1 : Int32) (a2 : Int32) (a3 : Int32) (σ : PS) (r : Int32 × PS) (h : fX8_barred a1 a2 a3 σ = some r) : FRM SX8_barred σ r.2 := by
  unfold fX8_barred at h
  obtain ⟨q1, e2, h⟩ := bind_some h
  try dsimp only at h
  have g3 := frX2_hasCaravan _ _ _ e2
  rcases ite_some h with ⟨hc, h⟩ | ⟨hc, h⟩
  · cases h
    exact (FRM.tr FRM.rf (FRM.mono g3 (by decide)))
  · obtain ⟨q4, e5, h⟩ := bind_some h
    try dsimp only at h
    have g6 := frX8_isDay _ _ _ e5
    rcases ite_some h with ⟨hc, h⟩ | ⟨hc, h⟩
    · cases h
      exact (FRM.tr (FRM.tr FRM.rf (FRM.mono g3 (by decide))) (FRM.mono g6 (by decide)))
    · obtain ⟨q7, e8, h⟩ := bind_some h
      try dsimp only at h
      have g9 := frX0_isKnown _ _ _ e8
      rcases ite_some h with ⟨hc, h⟩ | ⟨hc, h⟩
      · cases h
        exact (FRM.tr (FRM.tr (FRM.tr FRM.rf (FRM.mono g3 (by decide))) (FRM.mono g6 (by decide))) (FRM.mono g9 (by decide)))
      · obtain ⟨hb10, h⟩ := gd_some h
        obtain ⟨q11, e12, h⟩ := bind_some h
        try dsimp only at h
        have g13 := frX1_walk hb10 _ _ _ e12
        obtain ⟨hi14, h⟩ := gd_some h
        obtain ⟨hi15, h⟩ := gd_some h
        cases h
        exact (FRM.tr (FRM.tr (FRM.tr (FRM.tr FRM.rf (FRM.mono g3 (by decide))) (FRM.mono g6 (by decide))) (FRM.mono g9 (by decide))) (FRM.mono g13 (by decide)))

def SX0_firstBroken : List (Nat × Nat) := []
theorem frX0_firstBroken_64 {r5 : Int32 → Int32 → Int32 → Int32 → PS → Option (Int32 × PS)} (hr_5 : ∀ (x1 : Int32) (x2 : Int32) (x3 : Int32) (x4 : Int32) (σ : PS) (r : Int32 × PS), r5 x1 x2 x3 x4 σ = some r → FRM SX0_firstBroken σ r.2) (x1 : Int32) (x2 : Int32) (x3 : Int32) (x4 : Int32) (σ : PS) (r : Int32 × PS) (h : fX0_firstBroken_64 r5 x1 x2 x3 x4 σ = some r) : FRM SX0_firstBroken σ r.2 := by
  unfold fX0_firstBroken_64 at h
  exact FRM.tr FRM.rf (hr_5 x1 x2 x3 (x4 + 1) σ _ h)
theorem frX0_firstBroken_61 {r5 : Int32 → Int32 → Int32 → Int32 → PS → Option (Int32 × PS)} (hr_5 : ∀ (x1 : Int32) (x2 : Int32) (x3 : Int32) (x4 : Int32) (σ : PS) (r : Int32 × PS), r5 x1 x2 x3 x4 σ = some r → FRM SX0_firstBroken σ r.2) (x1 : Int32) (x2 : Int32) (x4 : Int32) (σ : PS) (r : Int32 × PS) (h : fX0_firstBroken_61 r5 x1 x2 x4 σ = some r) : FRM SX0_firstBroken σ r.2 := by
  unfold fX0_firstBroken_61 at h
  exact FRM.tr FRM.rf (frX0_firstBroken_64 hr_5 x1 x2 x4 x4 σ _ h)
theorem frX0_firstBroken_5 : ∀ (n : Nat) (x1 : Int32) (x2 : Int32) (x3 : Int32) (x4 : Int32) (σ : PS) (r : Int32 × PS), fX0_firstBroken_5 n x1 x2 x3 x4 σ = some r → FRM SX0_firstBroken σ r.2 := by
  intro n
  induction n with
  | zero =>
    intro x1 x2 x3 x4 σ r h
    rw [fX0_firstBroken_5] at h
    cases h
  | succ n ih =>
    intro x1 x2 x3 x4 σ r h
    rw [fX0_firstBroken_5] at h
    rcases ite_some h with ⟨hc, h⟩ | ⟨hc, h⟩
    · cases h
      exact FRM.rf
    · rcases ite_some h with ⟨hc, h⟩ | ⟨hc, h⟩
      · cases h
        exact FRM.rf
      · obtain ⟨hi1, h⟩ := gd_some h
        rcases ite_some h with ⟨hc, h⟩ | ⟨hc, h⟩
        · obtain ⟨hi2, h⟩ := gd_some h
          rcases ite_some h with ⟨hc, h⟩ | ⟨hc, h⟩
          · rcases ite_some h with ⟨hc, h⟩ | ⟨hc, h⟩
            · exact FRM.tr FRM.rf (frX0_firstBroken_61 ih x1 x2 x4 σ _ h)
            · obtain ⟨hi3, h⟩ := gd_some h
              obtain ⟨hi4, h⟩ := gd_some h
              rcases ite_some h with ⟨hc, h⟩ | ⟨hc, h⟩
              · exact FRM.tr FRM.rf (frX0_firstBroken_64 ih x1 x2 x3 x4 σ _ h)
              · exact FRM.tr FRM.rf (frX0_firstBroken_61 ih x1 x2 x4 σ _ h)
          · exact FRM.tr FRM.rf (frX0_firstBroken_64 ih x1 x2 x3 x4 σ _ h)
        · exact FRM.tr FRM.rf (frX0_firstBroken_64 ih x1 x2 x3 x4 σ _ h)
theorem frX0_firstBroken (a1 : Int32) (a2 : Int32) (σ : PS) (r : Int32 × PS) (h : fX0_firstBroken a1 a2 σ = some r) : FRM SX0_firstBroken σ r.2 := by
  unfold fX0_firstBroken at h
  exact FRM.tr FRM.rf (frX0_firstBroken_5 FU a1 a2 (-1) 0 σ _ h)

def SX0_firstSuspectDay : List (Nat × Nat) := []
theorem frX0_firstSuspectDay_111 (x3 : Int32) (x4 : Int32) (σ : PS) (r : Int32 × PS) (h : fX0_firstSuspectDay_111 x3 x4 σ = some r) : FRM SX0_firstSuspectDay σ r.2 := by
  unfold fX0_firstSuspectDay_111 at h
  obtain ⟨hi5, h⟩ := gd_some h
  rcases ite_some h with ⟨hc, h⟩ | ⟨hc, h⟩
  · cases h
    exact FRM.rf
  · cases h
    exact FRM.rf
theorem frX0_firstSuspectDay_105 {r6 : Int32 → Int32 → Int32 → Int32 → Int32 → PS → Option (Int32 × PS)} (hr_6 : ∀ (x1 : Int32) (x2 : Int32) (x3 : Int32) (x4 : Int32) (x5 : Int32) (σ : PS) (r : Int32 × PS), r6 x1 x2 x3 x4 x5 σ = some r → FRM SX0_firstSuspectDay σ r.2) (x1 : Int32) (x2 : Int32) (x3 : Int32) (x4 : Int32) (x5 : Int32) (σ : PS) (r : Int32 × PS) (h : fX0_firstSuspectDay_105 r6 x1 x2 x3 x4 x5 σ = some r) : FRM SX0_firstSuspectDay σ r.2 := by
  unfold fX0_firstSuspectDay_105 at h
  exact FRM.tr FRM.rf (hr_6 x1 x2 x3 x4 (x5 + 1) σ _ h)
theorem frX0_firstSuspectDay_63 {r6 : Int32 → Int32 → Int32 → Int32 → Int32 → PS → Option (Int32 × PS)} (hr_6 : ∀ (x1 : Int32) (x2 : Int32) (x3 : Int32) (x4 : Int32) (x5 : Int32) (σ : PS) (r : Int32 × PS), r6 x1 x2 x3 x4 x5 σ = some r → FRM SX0_firstSuspectDay σ r.2) (x1 : Int32) (x2 : Int32) (x3 : Int32) (x4 : Int32) (x5 : Int32) (s0 : Int32) (σ : PS) (r : Int32 × PS) (h : fX0_firstSuspectDay_63 r6 x1 x2 x3 x4 x5 s0 σ = some r) : FRM SX0_firstSuspectDay σ r.2 := by
  unfold fX0_firstSuspectDay_63 at h
  obtain ⟨hi6, h⟩ := gd_some h
  rcases ite_some h with ⟨hc, h⟩ | ⟨hc, h⟩
  · obtain ⟨hi7, h⟩ := gd_some h
    rcases ite_some h with ⟨hc, h⟩ | ⟨hc, h⟩
    · exact FRM.tr FRM.rf (frX0_firstSuspectDay_105 hr_6 x1 x2 x3 x4 x5 σ _ h)
    · rcases ite_some h with ⟨hc, h⟩ | ⟨hc, h⟩
      · exact FRM.tr FRM.rf (frX0_firstSuspectDay_105 hr_6 x1 x2 x3 x4 x5 σ _ h)
      · obtain ⟨hi8, h⟩ := gd_some h
        exact FRM.tr FRM.rf (frX0_firstSuspectDay_105 hr_6 x1 x2 x3 (imax x4 (gi σ 27 (x5 : Int32).toNatClampNeg)) x5 σ _ h)
  · exact FRM.tr FRM.rf (frX0_firstSuspectDay_105 hr_6 x1 x2 x3 x4 x5 σ _ h)
theorem frX0_firstSuspectDay_58 {r6 : Int32 → Int32 → Int32 → Int32 → Int32 → PS → Option (Int32 × PS)} (hr_6 : ∀ (x1 : Int32) (x2 : Int32) (x3 : Int32) (x4 : Int32) (x5 : Int32) (σ : PS) (r : Int32 × PS), r6 x1 x2 x3 x4 x5 σ = some r → FRM SX0_firstSuspectDay σ r.2) (x1 : Int32) (x2 : Int32) (x3 : Int32) (x4 : Int32) (x5 : Int32) (σ : PS) (r : Int32 × PS) (h : fX0_firstSuspectDay_58 r6 x1 x2 x3 x4 x5 σ = some r) : FRM SX0_firstSuspectDay σ r.2 := by
  unfold fX0_firstSuspectDay_58 at h
  exact FRM.tr FRM.rf (frX0_firstSuspectDay_63 hr_6 x1 x2 x3 x4 x5 1 σ _ h)
theorem frX0_firstSuspectDay_62 {r6 : Int32 → Int32 → Int32 → Int32 → Int32 → PS → Option (Int32 × PS)} (hr_6 : ∀ (x1 : Int32) (x2 : Int32) (x3 : Int32) (x4 : Int32) (x5 : Int32) (σ : PS) (r : Int32 × PS), r6 x1 x2 x3 x4 x5 σ = some r → FRM SX0_firstSuspectDay σ r.2) (x1 : Int32) (x2 : Int32) (x3 : Int32) (x4 : Int32) (x5 : Int32) (σ : PS) (r : Int32 × PS) (h : fX0_firstSuspectDay_62 r6 x1 x2 x3 x4 x5 σ = some r) : FRM SX0_firstSuspectDay σ r.2 := by
  unfold fX0_firstSuspectDay_62 at h
  exact FRM.tr FRM.rf (frX0_firstSuspectDay_63 hr_6 x1 x2 x3 x4 x5 0 σ _ h)
theorem frX0_firstSuspectDay_6 : ∀ (n : Nat) (x1 : Int32) (x2 : Int32) (x3 : Int32) (x4 : Int32) (x5 : Int32) (σ : PS) (r : Int32 × PS), fX0_firstSuspectDay_6 n x1 x2 x3 x4 x5 σ = some r → FRM SX0_firstSuspectDay σ r.2 := by
  intro n
  induction n with
  | zero =>
    intro x1 x2 x3 x4 x5 σ r h
    rw [fX0_firstSuspectDay_6] at h
    cases h
  | succ n ih =>
    intro x1 x2 x3 x4 x5 σ r h
    rw [fX0_firstSuspectDay_6] at h
    rcases ite_some h with ⟨hc, h⟩ | ⟨hc, h⟩
    · exact FRM.tr FRM.rf (frX0_firstSuspectDay_111 x3 x4 σ _ h)
    · rcases ite_some h with ⟨hc, h⟩ | ⟨hc, h⟩
      · exact FRM.tr FRM.rf (frX0_firstSuspectDay_111 x3 x4 σ _ h)
      · obtain ⟨hi1, h⟩ := gd_some h
        obtain ⟨hi2, h⟩ := gd_some h
        rcases ite_some h with ⟨hc, h⟩ | ⟨hc, h⟩
        · exact FRM.tr FRM.rf (frX0_firstSuspectDay_58 ih x1 x2 x3 x4 x5 σ _ h)
        · obtain ⟨hi3, h⟩ := gd_some h
          obtain ⟨hi4, h⟩ := gd_some h
          rcases ite_some h with ⟨hc, h⟩ | ⟨hc, h⟩
          · rcases ite_some h with ⟨hc, h⟩ | ⟨hc, h⟩
            · exact FRM.tr FRM.rf (frX0_firstSuspectDay_62 ih x1 x2 x3 x4 x5 σ _ h)
            · exact FRM.tr FRM.rf (frX0_firstSuspectDay_58 ih x1 x2 x3 x4 x5 σ _ h)
          · exact FRM.tr FRM.rf (frX0_firstSuspectDay_62 ih x1 x2 x3 x4 x5 σ _ h)
theorem frX0_firstSuspectDay (a1 : Int32) (a2 : Int32) (a3 : Int32) (σ : PS) (r : Int32 × PS) (h : fX0_firstSuspectDay a1 a2 a3 σ = some r) : FRM SX0_firstSuspectDay σ r.2 := by
  unfold fX0_firstSuspectDay at h
  exact FRM.tr FRM.rf (frX0_firstSuspectDay_6 FU a1 a2 a3 (-1) 0 σ _ h)

def SX1_companions : List (Nat × Nat) := []
theorem frX1_companions_80 {r15 : Int32 → Int32 → Int32 → Int32 → Int32 → PS → Option (Int32 × PS)} (hr_15 : ∀ (x1 : Int32) (x2 : Int32) (x3 : Int32) (x4 : Int32) (x5 : Int32) (σ : PS) (r : Int32 × PS), r15 x1 x2 x3 x4 x5 σ = some r → FRM SX1_companions σ r.2) (x1 : Int32) (x2 : Int32) (x3 : Int32) (x4 : Int32) (x5 : Int32) (σ : PS) (r : Int32 × PS) (h : fX1_companions_80 r15 x1 x2 x3 x4 x5 σ = some r) : FRM SX1_companions σ r.2 := by
  unfold fX1_companions_80 at h
  exact FRM.tr FRM.rf (hr_15 x1 x2 x3 x4 (x5 + 1) σ _ h)
theorem frX1_companions_15 : ∀ (n : Nat) (x1 : Int32) (x2 : Int32) (x3 : Int32) (x4 : Int32) (x5 : Int32) (σ : PS) (r : Int32 × PS), fX1_companions_15 n x1 x2 x3 x4 x5 σ = some r → FRM SX1_companions σ r.2 := by
  intro n
  induction n with
  | zero =>
    intro x1 x2 x3 x4 x5 σ r h
    rw [fX1_companions_15] at h
    cases h
  | succ n ih =>
    intro x1 x2 x3 x4 x5 σ r h
    rw [fX1_companions_15] at h
    rcases ite_some h with ⟨hc, h⟩ | ⟨hc, h⟩
    · cases h
      exact FRM.rf
    · rcases ite_some h with ⟨hc, h⟩ | ⟨hc, h⟩
      · exact FRM.tr FRM.rf (frX1_companions_80 ih x1 x2 x3 x4 x5 σ _ h)
      · rcases ite_some h with ⟨hc, h⟩ | ⟨hc, h⟩
        · exact FRM.tr FRM.rf (frX1_companions_80 ih x1 x2 x3 x4 x5 σ _ h)
        · obtain ⟨hi3, h⟩ := gd_some h
          obtain ⟨hi4, h⟩ := gd_some h
          rcases ite_some h with ⟨hc, h⟩ | ⟨hc, h⟩
          · obtain ⟨hi5, h⟩ := gd_some h
            obtain ⟨hi6, h⟩ := gd_some h
            obtain ⟨hi7, h⟩ := gd_some h
            obtain ⟨hi8, h⟩ := gd_some h
            rcases ite_some h with ⟨hc, h⟩ | ⟨hc, h⟩
            · exact FRM.tr FRM.rf (frX1_companions_80 ih x1 x2 (x3 ||| (1 <<< (x5 &&& 31))) x4 x5 σ _ h)
            · exact FRM.tr FRM.rf (frX1_companions_80 ih x1 x2 x3 x4 x5 σ _ h)
          · exact FRM.tr FRM.rf (frX1_companions_80 ih x1 x2 x3 x4 x5 σ _ h)
theorem frX1_companions (a1 : Int32) (a2 : Int32) (σ : PS) (r : Int32 × PS) (h : fX1_companions a1 a2 σ = some r) : FRM SX1_companions σ r.2 := by
  unfold fX1_companions at h
  obtain ⟨hi1, h⟩ := gd_some h
  obtain ⟨hi2, h⟩ := gd_some h
  exact FRM.tr FRM.rf (frX1_companions_15 FU a1 a2 0 (gi σ (rw_ 43 a1) (a2 : Int32).toNatClampNeg) 0 σ _ h)

def SX8_could : List (Nat × Nat) := [(41, 42), (44, 49), (51, 56), (58, 63), (65, 70), (72, 77), (79, 84), (86, 91), (93, 100), (102, 115), (123, 123), (131, 131)]
theorem frX8_could_79 : ∀ (n : Nat) (x1 : Int32) (x4 : Int32) (x5 : Int32) (x6 : Int32) (σ : PS) (r : Int32 × PS), fX8_could_79 n x1 x4 x5 x6 σ = some r → FRM SX8_could σ r.2 := by
  intro n
  induction n with
  | zero =>
    intro x1 x4 x5 x6 σ r h
    rw [fX8_could_79] at h
    cases h
  | succ n ih =>
    intro x1 x4 x5 x6 σ r h
    rw [fX8_could_79] at h
    rcases ite_some h with ⟨hc, h⟩ | ⟨hc, h⟩
    · cases h
      exact FRM.rf
    · rcases ite_some h with ⟨hc, h⟩ | ⟨hc, h⟩
      · cases h
        exact FRM.rf
      · obtain ⟨hi18, h⟩ := gd_some h
        obtain ⟨q19, e20, h⟩ := bind_some h
        try dsimp only at h
        have g21 := frX1_companions _ _ _ _ e20
        exact FRM.tr (FRM.tr FRM.rf (FRM.mono g21 (by decide))) (ih x1 x4 (x5 ||| q19.1) (x6 + 1) q19.2 _ h)
theorem frX8_could (a1 : Int32) (a2 : Int32) (σ : PS) (r : Int32 × PS) (h : fX8_could a1 a2 σ = some r) : FRM SX8_could σ r.2 := by
  unfold fX8_could at h
  obtain ⟨q1, e2, h⟩ := bind_some h
  try dsimp only at h
  have g3 := frX2_hasBale _ _ _ e2
  rcases ite_some h with ⟨hc, h⟩ | ⟨hc, h⟩
  · cases h
    exact (FRM.tr FRM.rf (FRM.mono g3 (by decide)))
  · obtain ⟨q4, e5, h⟩ := bind_some h
    try dsimp only at h
    have g6 := frX0_isKnown _ _ _ e5
    rcases ite_some h with ⟨hc, h⟩ | ⟨hc, h⟩
    · cases h
      exact (FRM.tr (FRM.tr FRM.rf (FRM.mono g3 (by decide))) (FRM.mono g6 (by decide)))
    · obtain ⟨q7, e8, h⟩ := bind_some h
      try dsimp only at h
      have g9 := frX0_firstBroken _ _ _ _ e8
      rcases ite_some h with ⟨hc, h⟩ | ⟨hc, h⟩
      · cases h
        exact (FRM.tr (FRM.tr (FRM.tr FRM.rf (FRM.mono g3 (by decide))) (FRM.mono g6 (by decide))) (FRM.mono g9 (by decide)))
      · obtain ⟨hb10, h⟩ := gd_some h
        obtain ⟨q11, e12, h⟩ := bind_some h
        try dsimp only at h
        have g13 := frX1_walk hb10 _ _ _ e12
        obtain ⟨hi14, h⟩ := gd_some h
        obtain ⟨q15, e16, h⟩ := bind_some h
        try dsimp only at h
        have g17 := frX0_firstSuspectDay _ _ _ _ _ e16
        exact FRM.tr (FRM.tr (FRM.tr (FRM.tr (FRM.tr (FRM.tr FRM.rf (FRM.mono g3 (by decide))) (FRM.mono g6 (by decide))) (FRM.mono g9 (by decide))) (FRM.mono g13 (by decide))) (FRM.mono g17 (by decide))) (frX8_could_79 FU a1 (gi q11 27 (q7.1 : Int32).toNatClampNeg) 0 q15.1 q15.2 _ h)

def SX8_sealed : List (Nat × Nat) := []
theorem frX8_sealed (a1 : Int32) (a2 : Int32) (a3 : Int32) (σ : PS) (r : Int32 × PS) (h : fX8_sealed a1 a2 a3 σ = some r) : FRM SX8_sealed σ r.2 := by
  unfold fX8_sealed at h
  obtain ⟨q1, e2, h⟩ := bind_some h
  try dsimp only at h
  have g3 := frX2_hasBale _ _ _ e2
  rcases ite_some h with ⟨hc, h⟩ | ⟨hc, h⟩
  · cases h
    exact (FRM.tr FRM.rf (FRM.mono g3 (by decide)))
  · obtain ⟨q4, e5, h⟩ := bind_some h
    try dsimp only at h
    have g6 := frX8_isDay _ _ _ e5
    rcases ite_some h with ⟨hc, h⟩ | ⟨hc, h⟩
    · cases h
      exact (FRM.tr (FRM.tr FRM.rf (FRM.mono g3 (by decide))) (FRM.mono g6 (by decide)))
    · obtain ⟨q7, e8, h⟩ := bind_some h
      try dsimp only at h
      have g9 := frX0_isKnown _ _ _ e8
      rcases ite_some h with ⟨hc, h⟩ | ⟨hc, h⟩
      · cases h
        exact (FRM.tr (FRM.tr (FRM.tr FRM.rf (FRM.mono g3 (by decide))) (FRM.mono g6 (by decide))) (FRM.mono g9 (by decide)))
      · obtain ⟨q10, e11, h⟩ := bind_some h
        try dsimp only at h
        have g12 := frX0_firstBroken _ _ _ _ e11
        rcases ite_some h with ⟨hc, h⟩ | ⟨hc, h⟩
        · cases h
          exact (FRM.tr (FRM.tr (FRM.tr (FRM.tr FRM.rf (FRM.mono g3 (by decide))) (FRM.mono g6 (by decide))) (FRM.mono g9 (by decide))) (FRM.mono g12 (by decide)))
        · obtain ⟨hi13, h⟩ := gd_some h
          rcases ite_some h with ⟨hc, h⟩ | ⟨hc, h⟩
          · cases h
            exact (FRM.tr (FRM.tr (FRM.tr (FRM.tr FRM.rf (FRM.mono g3 (by decide))) (FRM.mono g6 (by decide))) (FRM.mono g9 (by decide))) (FRM.mono g12 (by decide)))
          · cases h
            exact (FRM.tr (FRM.tr (FRM.tr (FRM.tr FRM.rf (FRM.mono g3 (by decide))) (FRM.mono g6 (by decide))) (FRM.mono g9 (by decide))) (FRM.mono g12 (by decide)))

def SX8_tolls : List (Nat × Nat) := [(41, 42), (44, 49), (51, 56), (58, 63), (65, 70), (72, 77), (79, 84), (86, 91), (93, 100), (102, 115), (123, 123), (131, 131)]
theorem frX8_tolls (a1 : Int32) (a2 : Int32) (a3 : Int32) (σ : PS) (r : Int32 × PS) (h : fX8_tolls a1 a2 a3 σ = some r) : FRM SX8_tolls σ r.2 := by
  unfold fX8_tolls at h
  obtain ⟨q1, e2, h⟩ := bind_some h
  try dsimp only at h
  have g3 := frX8_isLord _ _ _ e2
  rcases ite_some h with ⟨hc, h⟩ | ⟨hc, h⟩
  · cases h
    exact (FRM.tr FRM.rf (FRM.mono g3 (by decide)))
  · obtain ⟨q4, e5, h⟩ := bind_some h
    try dsimp only at h
    have g6 := frX8_isDay _ _ _ e5
    rcases ite_some h with ⟨hc, h⟩ | ⟨hc, h⟩
    · cases h
      exact (FRM.tr (FRM.tr FRM.rf (FRM.mono g3 (by decide))) (FRM.mono g6 (by decide)))
    · obtain ⟨q7, e8, h⟩ := bind_some h
      try dsimp only at h
      have g9 := frX0_isKnown _ _ _ e8
      rcases ite_some h with ⟨hc, h⟩ | ⟨hc, h⟩
      · cases h
        exact (FRM.tr (FRM.tr (FRM.tr FRM.rf (FRM.mono g3 (by decide))) (FRM.mono g6 (by decide))) (FRM.mono g9 (by decide)))
      · obtain ⟨hb10, h⟩ := gd_some h
        obtain ⟨q11, e12, h⟩ := bind_some h
        try dsimp only at h
        have g13 := frX1_walk hb10 _ _ _ e12
        obtain ⟨hi14, h⟩ := gd_some h
        obtain ⟨hi15, h⟩ := gd_some h
        cases h
        exact (FRM.tr (FRM.tr (FRM.tr (FRM.tr FRM.rf (FRM.mono g3 (by decide))) (FRM.mono g6 (by decide))) (FRM.mono g9 (by decide))) (FRM.mono g13 (by decide)))

def SX8_crowded : List (Nat × Nat) := [(41, 42), (44, 49), (51, 56), (58, 63), (65, 70), (72, 77), (79, 84), (86, 91), (93, 100), (102, 115), (123, 123), (131, 131)]
theorem frX8_crowded_46 : ∀ (n : Nat) (x1 : Int32) (x4 : Int32) (σ : PS) (r : Int32 × PS), fX8_crowded_46 n x1 x4 σ = some r → FRM SX8_crowded σ r.2 := by
  intro n
  induction n with
  | zero =>
    intro x1 x4 σ r h
    rw [fX8_crowded_46] at h
    cases h
  | succ n ih =>
    intro x1 x4 σ r h
    rw [fX8_crowded_46] at h
    rcases ite_some h with ⟨hc, h⟩ | ⟨hc, h⟩
    · cases h
      exact FRM.rf
    · obtain ⟨q14, e15, h⟩ := bind_some h
      try dsimp only at h
      have g16 := frX1_guests _ _ _ _ _ e15
      rcases ite_some h with ⟨hc, h⟩ | ⟨hc, h⟩
      · exact FRM.tr (FRM.tr FRM.rf (FRM.mono g16 (by decide))) (ih x1 (x4 + 1) q14.2 _ h)
      · cases h
        exact (FRM.tr FRM.rf (FRM.mono g16 (by decide)))
theorem frX8_crowded (a1 : Int32) (a2 : Int32) (a3 : Int32) (σ : PS) (r : Int32 × PS) (h : fX8_crowded a1 a2 a3 σ = some r) : FRM SX8_crowded σ r.2 := by
  unfold fX8_crowded at h
  obtain ⟨q1, e2, h⟩ := bind_some h
  try dsimp only at h
  have g3 := frX2_hasInn _ _ _ e2
  rcases ite_some h with ⟨hc, h⟩ | ⟨hc, h⟩
  · cases h
    exact (FRM.tr FRM.rf (FRM.mono g3 (by decide)))
  · obtain ⟨q4, e5, h⟩ := bind_some h
    try dsimp only at h
    have g6 := frX8_isDay _ _ _ e5
    rcases ite_some h with ⟨hc, h⟩ | ⟨hc, h⟩
    · cases h
      exact (FRM.tr (FRM.tr FRM.rf (FRM.mono g3 (by decide))) (FRM.mono g6 (by decide)))
    · obtain ⟨q7, e8, h⟩ := bind_some h
      try dsimp only at h
      have g9 := frX0_isKnown _ _ _ e8
      rcases ite_some h with ⟨hc, h⟩ | ⟨hc, h⟩
      · cases h
        exact (FRM.tr (FRM.tr (FRM.tr FRM.rf (FRM.mono g3 (by decide))) (FRM.mono g6 (by decide))) (FRM.mono g9 (by decide)))
      · obtain ⟨hb10, h⟩ := gd_some h
        obtain ⟨q11, e12, h⟩ := bind_some h
        try dsimp only at h
        have g13 := frX1_walk hb10 _ _ _ e12
        exact FRM.tr (FRM.tr (FRM.tr (FRM.tr (FRM.tr FRM.rf (FRM.mono g3 (by decide))) (FRM.mono g6 (by decide))) (FRM.mono g9 (by decide))) (FRM.mono g13 (by decide))) (frX8_crowded_46 FU a1 a2 q11 _ h)

def SX8_count : List (Nat × Nat) := []
theorem frX8_count (a1 : Int32) (σ : PS) (r : Int32 × PS) (h : fX8_count a1 σ = some r) : FRM SX8_count σ r.2 := by
  unfold fX8_count at h
  rcases ite_some h with ⟨hc, h⟩ | ⟨hc, h⟩
  · cases h
    exact FRM.rf
  rcases ite_some h with ⟨hc, h⟩ | ⟨hc, h⟩
  · cases h
    exact FRM.rf
  rcases ite_some h with ⟨hc, h⟩ | ⟨hc, h⟩
  · cases h
    exact FRM.rf
  rcases ite_some h with ⟨hc, h⟩ | ⟨hc, h⟩
  · cases h
    exact FRM.rf
  rcases ite_some h with ⟨hc, h⟩ | ⟨hc, h⟩
  · obtain ⟨hb1, h⟩ := gd_some h
    cases h
    exact FRM.rf
  rcases ite_some h with ⟨hc, h⟩ | ⟨hc, h⟩
  · cases h
    exact FRM.rf
  cases h
  exact FRM.rf

