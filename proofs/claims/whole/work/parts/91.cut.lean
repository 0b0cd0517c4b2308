/-! the reference's scanner -/
theorem at9_eq {n p : Nat} {σ : PS} (hn : n ≤ 2000) (h4 : gi σ 132 4 = nI n) (hp : p < 10000) : fX9_at (nI p) σ = some (txS (gi σ 134) n p, σ) := by
  unfold fX9_at txS
  rw [h4]
  by_cases h : p < n
  · rw [if_neg (nI_ge h (by omega)), gd_t (inb_nI (by omega) (by decide)), nI_clamp (by omega), if_pos h]
  · rw [if_pos (nI_le (by omega) (by omega)), if_neg h]
theorem letter_eq (x : Int32) (σ : PS) : fX9_isLetter x σ = some (tb (inR 97 122 x), σ) := by
  unfold fX9_isLetter inR
  by_cases h1 : x < 97
  · rw [if_pos h1, decide_eq_false (fun z => absurd h1 (Int32.not_lt.mpr z.1))]; rfl
  · rw [if_neg h1]
    by_cases h2 : 122 < x
    · rw [if_pos h2, decide_eq_false (fun z => absurd h2 (Int32.not_lt.mpr z.2))]; rfl
    · rw [if_neg h2, decide_eq_true ⟨Int32.not_lt.mp h1, Int32.not_lt.mp h2⟩]; rfl
theorem digit_eq (x : Int32) (σ : PS) : fX9_isDigit x σ = some (tb (inR 48 57 x), σ) := by
  unfold fX9_isDigit inR
  by_cases h1 : x < 48
  · rw [if_pos h1, decide_eq_false (fun z => absurd h1 (Int32.not_lt.mpr z.1))]; rfl
  · rw [if_neg h1]
    by_cases h2 : 57 < x
    · rw [if_pos h2, decide_eq_false (fun z => absurd h2 (Int32.not_lt.mpr z.2))]; rfl
    · rw [if_neg h2, decide_eq_true ⟨Int32.not_lt.mp h1, Int32.not_lt.mp h2⟩]; rfl
theorem more_eq {a : Nat} {x : Int32} (σ : PS) (hx : ltr x) : fX9_more (Int64.ofNat a) x σ = some (Int64.ofNat (27 * a + (x.toNatClampNeg - 96)), σ) := by
  obtain ⟨c, h1, h2, rfl⟩ := hx
  unfold fX9_more
  have e1 : ¬ nI c = 0 := fun z => by have := nIeq_lit (a := c) (b := 0) z (by omega) (by omega); omega
  have e2 : ((nI c - 97 + 1 : Int32)).toInt64 = Int64.ofNat (c - 96) := by
    have : ∀ d, d ≤ 25 → ((nI (d + 97) - 97 + 1 : Int32)).toInt64 = Int64.ofNat (d + 97 - 96) := by decide +kernel
    have h := this (c - 97) (by omega)
    rw [show c - 97 + 97 = c by omega] at h
    exact h
  rw [if_neg e1, e2, nI_clamp (by omega), Int64.ofNat_add, Int64.ofNat_mul]
  rfl
def tkW (σ : PS) (c : Nat) (a1 a2 a3 : Int32) (a4 : Int64) : PS := sI (sJ (sI (sI (sI σ 135 c a1) 136 c a2) 137 c a3) 138 c a4) 132 10 (nI (c + 1))
theorem token_eq {c : Nat} {σ : PS} (a1 a2 a3 : Int32) (a4 : Int64) (hc : c < 403) (h : gi σ 132 10 = nI c) : fX9_token a1 a2 a3 a4 σ = some (tkW σ c a1 a2 a3 a4) := by
  unfold fX9_token tkW
  have hb : inb (nI c) 403 = true := inb_nI hc (by decide)
  rw [h, gd_t hb, nI_clamp (by omega)]
  have e1 : gi (sI σ 135 c a1) 132 10 = nI c := by rw [gi_ne (by decide), h]
  rw [e1, gd_t hb, nI_clamp (by omega)]
  have e2 : gi (sI (sI σ 135 c a1) 136 c a2) 132 10 = nI c := by rw [gi_ne (by decide), e1]
  rw [e2, gd_t hb, nI_clamp (by omega)]
  have e3 : gi (sI (sI (sI σ 135 c a1) 136 c a2) 137 c a3) 132 10 = nI c := by rw [gi_ne (by decide), e2]
  rw [e3, gd_t hb, nI_clamp (by omega)]
  have e4 : gi (sJ (sI (sI (sI σ 135 c a1) 136 c a2) 137 c a3) 138 c a4) 132 10 = nI c := e3
  rw [e4, nI_1]
theorem cmp_0 (a b : Int64) : lg_cmp a b = 0 ↔ a = b := by
  unfold lg_cmp
  by_cases h : a = b
  · subst h; rw [if_neg (Int64.lt_irrefl), if_pos rfl]; exact ⟨fun _ => rfl, fun _ => rfl⟩
  · by_cases h2 : a > b
    · rw [if_pos h2]; exact ⟨fun z => absurd z (by decide), fun z => absurd z h⟩
    · rw [if_neg h2, if_neg h]; exact ⟨fun z => absurd z (by decide), fun z => absurd z h⟩
def kyG (σ : PS) : Prop := ∀ j, j < 14 → gl σ 139 j = Int64.ofNat (kyN j)
theorem kyG_0 : kyG σ0 := by
  have h : ∀ j, j < 14 → vlK_132 z_l 139 j = Int64.ofNat (kyN j) := by decide +kernel
  exact h
theorem key_loop {r7 : Int32 → PS → Option PS} {x1 x3 : Int32} {N : Nat} {σ : PS} (hk : kyG σ) (hN : N < 2 ^ 60) : ∀ (r m j : Nat) (x6 : Int32), j + r = 14 → fX9_cut_146 r7 (m + r + 1) x1 x3 (Int64.ofNat N) x6 (nI j) σ = fX9_cut_179 r7 x1 x3 (Int64.ofNat N) (lpS N r j x6) σ := by
  have hkn : ∀ j, j < 14 → kyN j < 2 ^ 60 := by decide +kernel
  have inj : ∀ j, j < 14 → (Int64.ofNat (kyN j) = Int64.ofNat N ↔ kyN j = N) := by
    intro j hj
    refine ⟨fun z => ?_, fun z => by rw [z]⟩
    have := congrArg Int64.toInt z
    rw [Int64.toInt_ofNat_of_lt (by have := hkn j hj; omega), Int64.toInt_ofNat_of_lt (by omega)] at this
    omega
  intro r
  induction r with
  | zero =>
    intro m j x6 hj
    rw [fX9_cut_146, if_pos (l_le (k := 14) (by rfl) (by omega) (by omega)), lpS]
  | succ r ih =>
    intro m j x6 hj
    rw [show m + (r + 1) + 1 = (m + r + 1) + 1 by omega, fX9_cut_146, if_neg (l_nle (k := 14) (by rfl) (by omega) (by decide)), gd_t (inb_nI (by omega) (by decide)), nI_clamp (by omega), hk j (by omega), lpS]
    unfold fX9_cut_173
    rw [nI_1, show (20 : Int32) = nI 20 from rfl, nI_add]
    by_cases he : kyN j = N
    · rw [if_pos ((cmp_0 _ _).mpr ((inj j (by omega)).mpr he)), if_pos he]
      exact ih m (j + 1) _ (by omega)
    · rw [if_neg (fun z => he ((inj j (by omega)).mp ((cmp_0 _ _).mp z))), if_neg he]
      exact ih m (j + 1) _ (by omega)
