/-! house, full, crowded -/
def cnX (p : Nat → Bool) (v : Nat → Int32) : Nat → Int32
  | 0 => 0
  | n + 1 => if p n = true then cnX p v n + v n else cnX p v n
theorem cnX_congr {p p' : Nat → Bool} {v v' : Nat → Int32} : ∀ {n : Nat}, (∀ j, j < n → p' j = p j ∧ (p j = true → v' j = v j)) → cnX p' v' n = cnX p v n := by
  intro n
  induction n with
  | zero => intro _; rfl
  | succ n ih =>
    intro h
    rw [cnX, cnX, (h n (by omega)).1, ih (fun j hj => h j (by omega))]
    by_cases hp : p n = true
    · rw [if_pos hp, if_pos hp, (h n (by omega)).2 hp]
    · rw [if_neg hp, if_neg hp]
def roS (D : TB) (i : Nat) (c : Nat) : Bool := decide (D 0 c = nI i) && !(decide (D 1 c = -1))
def ouS (D : TB) (i : Nat) (c : Nat) : Bool := decide (D 0 c = nI i) && decide (D 1 c = -1)
def grS (D : TB) (i : Nat) (r : Int32) (c : Nat) : Bool := decide (D 0 c = nI i) && decide (D 1 c = r)
/-- the class's three counts -/
theorem bstC {i d c : Nat} {D : TB} {τ : PS} (hc : c ≤ 6) (hd : d < 60) (h6 : gi τ 3 6 = nI c) (hR : ∀ y, y < c → CR τ y d D) : ∀ (q m y : Nat), y + q = c → fX1_beastsInStalls_5 (m + q + 1) (nI i) (nI d) (cnX (roS D i) (gi τ 18) y) (nI y) τ = some (cnX (roS D i) (gi τ 18) c, τ) := by
  intro q
  induction q with
  | zero =>
    intro m y hq
    have : y = c := by omega
    subst this
    rw [fX1_beastsInStalls_5, h6, if_pos (nI_le (Nat.le_refl _) (by omega))]
  | succ q ih =>
    intro m y hq
    have ih' := ih m (y + 1) (by omega)
    rw [cnX] at ih'
    rw [show m + (q + 1) + 1 = (m + q + 1) + 1 by omega, fX1_beastsInStalls_5, h6, if_neg (nI_ge (by omega) (by omega))]
    unfold fX1_beastsInStalls_56
    simp only [gd_t (inb_nI (show y < 6 by omega) (show 6 < 2 ^ 31 by decide)), gd_t (inb_nI hd (show 60 < 2 ^ 31 by decide))]
    rw [r43 (by omega), r50 (by omega), nI_clamp (show d < 2 ^ 31 by omega), nI_clamp (show y < 2 ^ 31 by omega), (hR y (by omega)).1, (hR y (by omega)).2.1, nI_1]
    unfold roS at ih' ⊢
    by_cases h1 : D 0 y = nI i
    · rw [if_pos h1]
      by_cases h2 : D 1 y = -1
      · rw [if_pos h2]
        rw [decide_eq_true h1, decide_eq_true h2, if_neg (by decide)] at ih'
        exact ih'
      · rw [if_neg h2]
        rw [decide_eq_true h1, decide_eq_false h2, if_pos (by decide)] at ih'
        exact ih'
    · rw [if_neg h1]
      rw [decide_eq_false h1, Bool.false_and, if_neg (by decide)] at ih'
      exact ih'
theorem gstC {i d c : Nat} {D : TB} {τ : PS} {w : Bool} (hc : c ≤ 6) (hd : d < 60) (h6 : gi τ 3 6 = nI c) (hR : ∀ y, y < c → CR τ y d D) : ∀ (q m y : Nat), y + q = c → fX1_guests_6 (m + q + 1) (nI i) (nI d) (tb w) (cnX (if w = true then roS D i else ouS D i) (fun _ => 1) y) (nI y) τ = some (cnX (if w = true then roS D i else ouS D i) (fun _ => 1) c, τ) := by
  intro q
  induction q with
  | zero =>
    intro m y hq
    have : y = c := by omega
    subst this
    rw [fX1_guests_6, h6, if_pos (nI_le (Nat.le_refl _) (by omega))]
  | succ q ih =>
    intro m y hq
    have ih' := ih m (y + 1) (by omega)
    rw [cnX] at ih'
    rw [show m + (q + 1) + 1 = (m + q + 1) + 1 by omega, fX1_guests_6, h6, if_neg (nI_ge (by omega) (by omega))]
    unfold fX1_guests_49 fX1_guests_56
    simp only [gd_t (inb_nI (show y < 6 by omega) (show 6 < 2 ^ 31 by decide)), gd_t (inb_nI hd (show 60 < 2 ^ 31 by decide))]
    rw [r43 (by omega), r50 (by omega), nI_clamp (show d < 2 ^ 31 by omega), (hR y (by omega)).1, (hR y (by omega)).2.1, nI_1]
    cases w with
    | true =>
      rw [if_pos (show true = true from rfl)] at ih' ⊢
      unfold roS at ih' ⊢
      by_cases h1 : D 0 y = nI i
      · rw [if_pos h1]
        by_cases h2 : D 1 y = -1
        · rw [if_pos h2, if_neg (show ¬ (0 : Int32) = tb true by decide)]
          rw [decide_eq_true h1, decide_eq_true h2, if_neg (by decide)] at ih'
          exact ih'
        · rw [if_neg h2, if_pos (show (1 : Int32) = tb true from rfl)]
          rw [decide_eq_true h1, decide_eq_false h2, if_pos (by decide)] at ih'
          exact ih'
      · rw [if_neg h1]
        rw [decide_eq_false h1, Bool.false_and, if_neg (by decide)] at ih'
        exact ih'
    | false =>
      rw [if_neg (show ¬ false = true by decide)] at ih' ⊢
      unfold ouS at ih' ⊢
      by_cases h1 : D 0 y = nI i
      · rw [if_pos h1]
        by_cases h2 : D 1 y = -1
        · rw [if_pos h2, if_pos (show (0 : Int32) = tb false from rfl)]
          rw [decide_eq_true h1, decide_eq_true h2, if_pos (by decide)] at ih'
          exact ih'
        · rw [if_neg h2, if_neg (show ¬ (1 : Int32) = tb false by decide)]
          rw [decide_eq_true h1, decide_eq_false h2, if_neg (by decide)] at ih'
          exact ih'
      · rw [if_neg h1]
        rw [decide_eq_false h1, Bool.false_and, if_neg (by decide)] at ih'
        exact ih'
theorem grdC {i d c : Nat} {r : Int32} {D : TB} {τ : PS} (hc : c ≤ 6) (hd : d < 60) (h6 : gi τ 3 6 = nI c) (hR : ∀ y, y < c → CR τ y d D) : ∀ (q m y : Nat), y + q = c → fX1_guardsInRoom_6 (m + q + 1) (nI i) r (nI d) (cnX (grS D i r) (gi τ 19) y) (nI y) τ = some (cnX (grS D i r) (gi τ 19) c, τ) := by
  intro q
  induction q with
  | zero =>
    intro m y hq
    have : y = c := by omega
    subst this
    rw [fX1_guardsInRoom_6, h6, if_pos (nI_le (Nat.le_refl _) (by omega))]
  | succ q ih =>
    intro m y hq
    have ih' := ih m (y + 1) (by omega)
    rw [cnX] at ih'
    rw [show m + (q + 1) + 1 = (m + q + 1) + 1 by omega, fX1_guardsInRoom_6, h6, if_neg (nI_ge (by omega) (by omega))]
    unfold fX1_guardsInRoom_59
    simp only [gd_t (inb_nI (show y < 6 by omega) (show 6 < 2 ^ 31 by decide)), gd_t (inb_nI hd (show 60 < 2 ^ 31 by decide))]
    rw [r43 (by omega), r50 (by omega), nI_clamp (show d < 2 ^ 31 by omega), nI_clamp (show y < 2 ^ 31 by omega), (hR y (by omega)).1, (hR y (by omega)).2.1, nI_1]
    unfold grS at ih' ⊢
    by_cases h1 : D 0 y = nI i
    · rw [if_pos h1]
      by_cases h2 : D 1 y = r
      · rw [if_pos h2]
        rw [decide_eq_true h1, decide_eq_true h2, if_pos (by decide)] at ih'
        exact ih'
      · rw [if_neg h2]
        rw [decide_eq_true h1, decide_eq_false h2, if_neg (by decide)] at ih'
        exact ih'
    · rw [if_neg h1]
      rw [decide_eq_false h1, Bool.false_and, if_neg (by decide)] at ih'
      exact ih'
theorem outM {y d : Nat} {D0 D1 : Int32} {τ : PS} (hy : y < 6) (hd : d < 60) (h0 : gi τ 172 (60 * y + d) = D0) (h1 : gi τ 173 (60 * y + d) = D1) (hn : D0 ≠ -1) : fX9_isOutside (nI y) (nI d) τ = some (tb (decide (D1 = -1)), τ) := by
  unfold fX9_isOutside
  rw [nI60]
  simp only [gd_t (inb_nI (show 60 * y + d < 360 by omega) (show 360 < 2 ^ 31 by decide))]
  rw [nI_clamp (by omega), h0, h1, if_neg hn]
  by_cases h : D1 = -1
  · rw [if_pos h, decide_eq_true h]; rfl
  · rw [if_neg h, decide_eq_false h]; rfl
/-- the reference's house -/
theorem houM {i d c : Nat} {w : Int32} {D : TB} {τ : PS} (hi : i < 8) (hc : c ≤ 6) (hd : d < 60) (h6 : gi τ 132 44 = nI c) (hR : ∀ y, y < c → gi τ 172 (60 * y + d) = D 0 y ∧ gi τ 173 (60 * y + d) = D 1 y) : ∀ (q m y : Nat), y + q = c → fX9_house_73 (m + q + 1) (nI i) (nI d) w (cnX (roS D i) (gi τ 162) y) (cnX (roS D i) (fun _ => 1) y) (cnX (ouS D i) (fun _ => 1) y) (nI y) τ = if w = 0 then some (cnX (roS D i) (gi τ 162) c, τ) else if w = 2 then some (cnX (roS D i) (fun _ => 1) c, τ) else some (cnX (ouS D i) (fun _ => 1) c, τ) := by
  intro q
  induction q with
  | zero =>
    intro m y hq
    have : y = c := by omega
    subst this
    rw [fX9_house_73, h6, if_pos (nI_le (Nat.le_refl _) (by omega))]
  | succ q ih =>
    intro m y hq
    have ih' := ih m (y + 1) (by omega)
    have hRy := hR y (by omega)
    rw [cnX, cnX, cnX] at ih'
    rw [show m + (q + 1) + 1 = (m + q + 1) + 1 by omega, fX9_house_73, h6, if_neg (nI_ge (by omega) (by omega)), nI60, gd_t (inb_nI (show 60 * y + d < 360 by omega) (by decide)), nI_clamp (show 60 * y + d < 2 ^ 31 by omega), hRy.1]
    unfold fX9_house_132
    unfold roS ouS at ih' ⊢
    by_cases h1 : D 0 y = nI i
    · rw [if_pos h1, outM (by omega) hd hRy.1 hRy.2 (by rw [h1]; exact nI_m1 (by omega))]
      simp only [Option.bind_some]
      rw [ite_tb, nI_1]
      simp only [gd_t (inb_nI (show y < 6 by omega) (show 6 < 2 ^ 31 by decide))]
      rw [nI_clamp (show y < 2 ^ 31 by omega)]
      by_cases h2 : D 1 y = -1
      · rw [if_pos (decide_eq_true h2)]
        simp only [decide_eq_true h1, decide_eq_true h2, Bool.not_true, Bool.and_false, Bool.and_true, Bool.false_eq_true, if_false, if_true] at ih'
        exact ih'
      · rw [if_neg (by rw [decide_eq_false h2]; decide)]
        simp only [decide_eq_true h1, decide_eq_false h2, Bool.not_false, Bool.and_false, Bool.and_true, Bool.false_eq_true, if_false, if_true] at ih'
        exact ih'
    · rw [if_neg h1, nI_1]
      simp only [decide_eq_false h1, Bool.false_and, Bool.false_eq_true, if_false] at ih'
      exact ih'
theorem fulM {i d c : Nat} {r : Int32} {D : TB} {τ : PS} (hc : c ≤ 6) (hd : d < 60) (h6 : gi τ 132 44 = nI c) (hR : ∀ y, y < c → gi τ 172 (60 * y + d) = D 0 y ∧ gi τ 173 (60 * y + d) = D 1 y) : ∀ (q m y : Nat), y + q = c → fX9_full_54 (m + q + 1) (nI i) r (nI d) (cnX (grS D i r) (gi τ 163) y) (nI y) τ = some (cnX (grS D i r) (gi τ 163) c, τ) := by
  intro q
  induction q with
  | zero =>
    intro m y hq
    have : y = c := by omega
    subst this
    rw [fX9_full_54, h6, if_pos (nI_le (Nat.le_refl _) (by omega))]
  | succ q ih =>
    intro m y hq
    have ih' := ih m (y + 1) (by omega)
    have hRy := hR y (by omega)
    rw [cnX] at ih'
    rw [show m + (q + 1) + 1 = (m + q + 1) + 1 by omega, fX9_full_54, h6, if_neg (nI_ge (by omega) (by omega)), nI60]
    unfold fX9_full_107
    simp only [gd_t (inb_nI (show y < 6 by omega) (show 6 < 2 ^ 31 by decide)), gd_t (inb_nI (show 60 * y + d < 360 by omega) (show 360 < 2 ^ 31 by decide))]
    rw [nI_clamp (show 60 * y + d < 2 ^ 31 by omega), nI_clamp (show y < 2 ^ 31 by omega), hRy.1, hRy.2, nI_1]
    unfold grS at ih' ⊢
    by_cases h1 : D 0 y = nI i
    · rw [if_pos h1]
      by_cases h2 : D 1 y = r
      · rw [if_pos h2]
        rw [decide_eq_true h1, decide_eq_true h2, if_pos (by decide)] at ih'
        exact ih'
      · rw [if_neg h2]
        rw [decide_eq_true h1, decide_eq_false h2, if_neg (by decide)] at ih'
        exact ih'
    · rw [if_neg h1]
      rw [decide_eq_false h1, Bool.false_and, if_neg (by decide)] at ih'
      exact ih'
theorem op_full (x1 x2 x3 x4 : Int32) : OPS (fX8_full x1 x2 x3 x4) (fX9_full x1 x2 x3 x4) := by
  rintro σ ⟨n, a, c, b, f, s, l, h⟩
  have hI : Inv σ := h.inv
  obtain ⟨⟨k5, k6⟩, ⟨k1, k2⟩, ⟨k3, k4⟩, -, ha8, hc6, hf3, hb6, hB⟩ := cnts h
  unfold fX8_full
  rw [hasInn_eq, k5]
  simp only [Option.bind_some]
  rw [ite_tv]
  by_cases q1 : 0 ≤ x1 ∧ x1 ≤ nI a - 1
  rotate_left
  · rw [if_neg q1]
    refine hO_pr rfl ?_
    unfold fX9_full
    rw [minn x1 k6 ha8]
    simp only [Option.bind_some]
    rw [ite_tv, if_neg q1]
    exact ⟨_, rfl, rfl, hI⟩
  rw [if_pos q1]
  obtain ⟨i, rfl, hi⟩ := (isN_lt (by omega)).mp q1
  obtain ⟨R, hR, -, hR3⟩ := (h.2.2.1.1.2.2.2.2.1 i hi).2.2.2.1
  have g8 : inb (nI i) 8 = true := inb_nI (by omega) (by decide)
  have ci : (nI i).toNatClampNeg = i := nI_clamp (by omega)
  have hiff := le_pred (x := x2) (y := nI R) rfl (show R < 2 ^ 31 by omega)
  have Rf : ∀ τ, gi τ 132 38 = nI a → gi τ 132 54 = nI f → gi τ 159 i = nI R → fX9_full (nI i) x2 x3 x4 τ = if 0 ≤ x2 ∧ x2 ≤ nI R - 1 then (if 0 ≤ x3 ∧ x3 ≤ 59 then (if 0 ≤ x4 ∧ x4 ≤ nI f then (fX9_goes x4 τ).bind (fun σ12 => fX9_full_54 FU (nI i) x2 x3 0 0 σ12) else some (-1000000, τ)) else some (-1000000, τ)) else some (-1000000, τ) := by
    intro τ e1 e2 e3
    unfold fX9_full
    rw [minn (nI i) e1 ha8]
    simp only [Option.bind_some]
    rw [ite_tv, if_pos q1, gd_t g8, ci, e3, mDay_eq]
    simp only [Option.bind_some]
    rw [ite_tv, mKnown_eq, e2]
    simp only [Option.bind_some]
    rw [ite_tv]
    by_cases q : 0 ≤ x2 ∧ x2 ≤ nI R - 1
    · rw [if_pos q, if_neg (hiff.mp q).1, if_neg (hiff.mp q).2]
    · rw [if_neg q]
      by_cases q' : x2 < 0
      · rw [if_pos q']
      · rw [if_neg q', if_pos (Classical.byContradiction (fun z => q (hiff.mpr ⟨q', z⟩)))]
  have r159 : ∀ τ, IV n a c b f s l τ → gi τ 7 i = nI R → gi τ 159 i = nI R := fun τ ht e => by rw [(ht.2.2.1.2.1.2.1 i).2.2.2.1, e]
  rw [gd_t g8, ci, isWithin_eq, hR]
  simp only [Option.bind_some]
  rw [ite_tv]
  by_cases q2 : 0 ≤ x2 ∧ x2 ≤ nI R - 1
  rotate_left
  · rw [if_neg q2]
    refine hO_pr rfl ?_
    rw [Rf σ k6 k4 (r159 σ h hR), if_neg q2]
    exact ⟨_, rfl, rfl, hI⟩
  rw [if_pos q2, isDay_eq]
  simp only [Option.bind_some]
  rw [ite_tv]
  by_cases q3 : 0 ≤ x3 ∧ x3 ≤ 59
  rotate_left
  · rw [if_neg q3]
    refine hO_pr rfl ?_
    rw [Rf σ k6 k4 (r159 σ h hR), if_pos q2, if_neg q3]
    exact ⟨_, rfl, rfl, hI⟩
  rw [if_pos q3, isKnown_eq, k3]
  simp only [Option.bind_some]
  rw [ite_tv]
  by_cases q4 : 0 ≤ x4 ∧ x4 ≤ nI f
  rotate_left
  · rw [if_neg q4]
    refine hO_pr rfl ?_
    rw [Rf σ k6 k4 (r159 σ h hR), if_pos q2, if_pos q3, if_neg q4]
    exact ⟨_, rfl, rfl, hI⟩
  rw [if_pos q4, gd_t hB]
  obtain ⟨d, rfl, hd⟩ := toD q3
  obtain ⟨k, rfl, hk⟩ := toK hf3 q4
  refine wk_then h hk (fun τ hτ hCT hkF => ?_)
  obtain ⟨⟨-, t6⟩, ⟨t1, t2⟩, ⟨-, t4⟩, -⟩ := cnts hτ
  obtain ⟨m, hm⟩ := FU_k (c + 1) (by omega)
  have e1 : fX1_guardsInRoom (nI i) x2 (nI d) τ = some (cnX (grS (rodS (lnd τ) l (shX τ k) a c (d + 1)) i x2) (gi τ 19) c, τ) := by
    unfold fX1_guardsInRoom
    rw [hm]
    exact grdC hc6 hd t1 (hCT d hd).1 c m 0 (by omega)
  rw [e1]
  simp only [Option.bind_some]
  refine hO_pr rfl ?_
  rw [Rf τ t6 t4 (r159 τ hτ (by rw [hkF 7 i (by decide) (by decide) (by decide) (by decide) (by omega)]; exact hR)), if_pos q2, if_pos q3, if_pos q4]
  refine gs_then hτ hk (fun υ hυ hRT hgF => ?_)
  obtain ⟨-, ⟨-, u2⟩, -⟩ := cnts hυ
  have e2 : fX9_full_54 FU (nI i) x2 (nI d) 0 0 υ = some (cnX (grS (rodS (lnd τ) l (shX τ k) a c (d + 1)) i x2) (gi υ 163) c, υ) := by
    rw [hm]
    exact fulM hc6 hd u2 (fun y hy => ⟨((hRT d hd).1 y hy).1, ((hRT d hd).1 y hy).2.1⟩) c m 0 (by omega)
  refine ⟨_, e2, ?_, hυ.inv⟩
  refine (cnX_congr (fun j hj => ⟨rfl, fun _ => ?_⟩)).symm
  rw [(hυ.2.2.1.2.1.2.1 j).2.2.2.2.2.2.1, hgF 19 j (by decide) (by omega)]
theorem op_house (x1 x2 x3 x4 : Int32) : OPS (fX8_house x1 x2 x3 x4) (fX9_house x1 x2 x3 x4) := by
  rintro σ ⟨n, a, c, b, f, s, l, h⟩
  have hI : Inv σ := h.inv
  obtain ⟨⟨k5, k6⟩, ⟨k1, k2⟩, ⟨k3, k4⟩, -, ha8, hc6, hf3, hb6, hB⟩ := cnts h
  unfold fX8_house
  rw [hasInn_eq, k5]
  simp only [Option.bind_some]
  rw [ite_tv]
  have Rf : ∀ τ, gi τ 132 38 = nI a → gi τ 132 54 = nI f → fX9_house x1 x2 x3 x4 τ = if 0 ≤ x1 ∧ x1 ≤ nI a - 1 then (if 0 ≤ x2 ∧ x2 ≤ 59 then (if 0 ≤ x3 ∧ x3 ≤ nI f then (if 0 ≤ x4 ∧ x4 ≤ 3 then (fX9_goes x3 τ).bind (fun σ11 => (if x4 = 1 then gd (inb ((60 * x1) + x2) 480) (some ((gi σ11 179 (((60 * x1) + x2) : Int32).toNatClampNeg), σ11)) else fX9_house_73 FU x1 x2 x4 0 0 0 0 σ11)) else some (-1000000, τ)) else some (-1000000, τ)) else some (-1000000, τ)) else some (-1000000, τ) := by
    intro τ e1 e2
    unfold fX9_house
    rw [minn x1 e1 ha8]
    simp only [Option.bind_some]
    rw [ite_tv, mDay_eq]
    simp only [Option.bind_some]
    rw [ite_tv, mKnown_eq, e2]
    simp only [Option.bind_some]
    rw [ite_tv]
    by_cases q : 0 ≤ x4 ∧ x4 ≤ 3
    · rw [rn2_pos q, if_pos q]
    · rw [rn2_neg q, if_neg q]
  by_cases q1 : 0 ≤ x1 ∧ x1 ≤ nI a - 1
  rotate_left
  · rw [if_neg q1]
    refine hO_pr rfl ?_
    rw [Rf σ k6 k4, if_neg q1]
    exact ⟨_, rfl, rfl, hI⟩
  rw [if_pos q1, isDay_eq]
  simp only [Option.bind_some]
  rw [ite_tv]
  by_cases q2 : 0 ≤ x2 ∧ x2 ≤ 59
  rotate_left
  · rw [if_neg q2]
    refine hO_pr rfl ?_
    rw [Rf σ k6 k4, if_pos q1, if_neg q2]
    exact ⟨_, rfl, rfl, hI⟩
  rw [if_pos q2, isKnown_eq, k3]
  simp only [Option.bind_some]
  rw [ite_tv]
  by_cases q3 : 0 ≤ x3 ∧ x3 ≤ nI f
  rotate_left
  · rw [if_neg q3]
    refine hO_pr rfl ?_
    rw [Rf σ k6 k4, if_pos q1, if_pos q2, if_neg q3]
    exact ⟨_, rfl, rfl, hI⟩
  rw [if_pos q3, gd_t hB]
  obtain ⟨i, rfl, hi⟩ := (isN_lt (by omega)).mp q1
  obtain ⟨d, rfl, hd⟩ := toD q2
  obtain ⟨k, rfl, hk⟩ := toK hf3 q3
  refine wk_then h hk (fun τ hτ hCT hkF => ?_)
  obtain ⟨⟨-, t6⟩, ⟨t1, t2⟩, ⟨-, t4⟩, -⟩ := cnts hτ
  obtain ⟨m, hm⟩ := FU_k (c + 1) (by omega)
  generalize hD : rodS (lnd τ) l (shX τ k) a c (d + 1) = D at *
  have hCTd := hCT d hd
  rw [hD] at hCTd
  have b1 : fX1_beastsInStalls (nI i) (nI d) τ = some (cnX (roS D i) (gi τ 18) c, τ) := by
    unfold fX1_beastsInStalls
    rw [hm]
    exact bstC hc6 hd t1 hCTd.1 c m 0 (by omega)
  have b2 : fX1_guests (nI i) (nI d) 1 τ = some (cnX (roS D i) (fun _ => 1) c, τ) := by
    unfold fX1_guests
    rw [hm]
    have := gstC (i := i) (w := true) hc6 hd t1 hCTd.1 c m 0 (by omega)
    rw [if_pos rfl] at this
    exact this
  have b3 : fX1_guests (nI i) (nI d) 0 τ = some (cnX (ouS D i) (fun _ => 1) c, τ) := by
    unfold fX1_guests
    rw [hm]
    have := gstC (i := i) (w := false) hc6 hd t1 hCTd.1 c m 0 (by omega)
    rw [if_neg (show ¬ false = true by decide)] at this
    exact this
  have ref : ∀ r : Int32, ((0 ≤ x4 ∧ x4 ≤ 3) → r = if x4 = 1 then D 7 i else if x4 = 0 then cnX (roS D i) (gi τ 18) c else if x4 = 2 then cnX (roS D i) (fun _ => 1) c else cnX (ouS D i) (fun _ => 1) c) → (¬ (0 ≤ x4 ∧ x4 ≤ 3) → r = -1000000) → hO (fX9_house (nI i) (nI d) (nI k) x4 τ) (fun q => r = q.1 ∧ Inv q.2) := by
    intro r r1 r0
    rw [Rf τ t6 t4, if_pos q1, if_pos q2, if_pos q3]
    by_cases q4 : 0 ≤ x4 ∧ x4 ≤ 3
    rotate_left
    · rw [if_neg q4]
      exact ⟨_, rfl, r0 q4, hτ.inv⟩
    rw [if_pos q4]
    have r1' := r1 q4
    refine gs_then hτ hk (fun υ hυ hRT hgF => ?_)
    obtain ⟨-, ⟨-, u2⟩, -⟩ := cnts hυ
    have hRTd := hRT d hd
    rw [hD] at hRTd
    by_cases z1 : x4 = 1
    · rw [if_pos z1] at r1' ⊢
      rw [nI60, gd_t (inb_nI (show 60 * i + d < 480 by omega) (by decide)), nI_clamp (by omega), hRTd.2.1 i hi]
      exact ⟨_, rfl, r1', hυ.inv⟩
    · rw [if_neg z1] at r1' ⊢
      have e2 := houM (i := i) (w := x4) (D := D) (τ := υ) (by omega) hc6 hd u2 (fun y hy => ⟨(hRTd.1 y hy).1, (hRTd.1 y hy).2.1⟩) c m 0 (by omega)
      have e3 : fX9_house_73 FU (nI i) (nI d) x4 0 0 0 0 υ = if x4 = 0 then some (cnX (roS D i) (gi υ 162) c, υ) else if x4 = 2 then some (cnX (roS D i) (fun _ => 1) c, υ) else some (cnX (ouS D i) (fun _ => 1) c, υ) := by
        rw [hm]
        exact e2
      rw [e3]
      by_cases z0 : x4 = 0
      · rw [if_pos z0] at r1' ⊢
        refine ⟨_, rfl, ?_, hυ.inv⟩
        rw [r1']
        refine (cnX_congr (fun j hj => ⟨rfl, fun _ => ?_⟩)).symm
        rw [(hυ.2.2.1.2.1.2.1 j).2.2.2.2.2.1, hgF 18 j (by decide) (by omega)]
      · rw [if_neg z0] at r1' ⊢
        by_cases z2 : x4 = 2
        · rw [if_pos z2] at r1' ⊢
          exact ⟨_, rfl, r1', hυ.inv⟩
        · rw [if_neg z2] at r1' ⊢
          exact ⟨_, rfl, r1', hυ.inv⟩
  rw [b1, b2, b3]
  simp only [Option.bind_some]
  by_cases z0 : x4 = 0
  · rw [if_pos z0]
    exact hO_pr rfl (ref _ (fun _ => by rw [if_neg (by rw [z0]; decide), if_pos z0]) (fun hn => absurd (by rw [z0]; decide) hn))
  rw [if_neg z0]
  by_cases z1 : x4 = 1
  · rw [if_pos z1, gd_t (inb_nI (show i < 8 by omega) (by decide)), gd_t (inb_nI (show d < 60 by omega) (by decide)), r92 (by omega), nI_clamp (by omega), hCTd.2.2 i hi]
    exact hO_pr rfl (ref _ (fun _ => by rw [if_pos z1]) (fun hn => absurd (by rw [z1]; decide) hn))
  rw [if_neg z1]
  by_cases z2 : x4 = 2
  · rw [if_pos z2]
    exact hO_pr rfl (ref _ (fun _ => by rw [if_neg z1, if_neg z0, if_pos z2]) (fun hn => absurd (by rw [z2]; decide) hn))
  rw [if_neg z2]
  by_cases z3 : x4 = 3
  · rw [if_pos z3]
    exact hO_pr rfl (ref _ (fun _ => by rw [if_neg z1, if_neg z0, if_neg z2]) (fun hn => absurd (by rw [z3]; decide) hn))
  rw [if_neg z3]
  refine hO_pr rfl (ref _ (fun hn => ?_) (fun _ => rfl))
  obtain ⟨q, e, -, hq⟩ := (isN_of (l := 0) (h := 3) (lo := 0) (hi := 3) rfl rfl (by decide) (by decide)).mp hn
  have : q = 0 ∨ q = 1 ∨ q = 2 ∨ q = 3 := by omega
  rcases this with rfl | rfl | rfl | rfl
  · exact absurd e z0
  · exact absurd e z1
  · exact absurd e z2
  · exact absurd e z3
