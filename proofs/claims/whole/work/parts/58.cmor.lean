/-! the class's morning -/
theorem r8 {i : Nat} (h : i < 2 ^ 31) : rw_ 8 (nI i) = 9 + i := by rw [rw_nI h]
theorem r29 {i : Nat} (h : i < 2 ^ 31) : rw_ 29 (nI i) = 30 + i := by rw [rw_nI h]
theorem r43 {i : Nat} (h : i < 2 ^ 31) : rw_ 43 (nI i) = 44 + i := by rw [rw_nI h]
theorem r50 {i : Nat} (h : i < 2 ^ 31) : rw_ 50 (nI i) = 51 + i := by rw [rw_nI h]
theorem r57 {i : Nat} (h : i < 2 ^ 31) : rw_ 57 (nI i) = 58 + i := by rw [rw_nI h]
theorem r64 {i : Nat} (h : i < 2 ^ 31) : rw_ 64 (nI i) = 65 + i := by rw [rw_nI h]
theorem r71 {i : Nat} (h : i < 2 ^ 31) : rw_ 71 (nI i) = 72 + i := by rw [rw_nI h]
theorem r78 {i : Nat} (h : i < 2 ^ 31) : rw_ 78 (nI i) = 79 + i := by rw [rw_nI h]
theorem r85 {i : Nat} (h : i < 2 ^ 31) : rw_ 85 (nI i) = 86 + i := by rw [rw_nI h]
theorem r92 {i : Nat} (h : i < 2 ^ 31) : rw_ 92 (nI i) = 93 + i := by rw [rw_nI h]
theorem r101 {i : Nat} (h : i < 2 ^ 31) : rw_ 101 (nI i) = 102 + i := by rw [rw_nI h]
/-- the cell of a row of the day's table -/
def cl (k j : Nat) : Nat := if k = 8 then 102 + j else 44 + 7 * k + j
/-- what stood on the evening ahead -/
def pv (σ : PS) (d k j : Nat) : Int32 := if d = 0 then (if k = 0 then -1 else 0) else gi σ (cl k j) (d - 1)
def wkX (σ : PS) (c d : Nat) : PS := sI (sI (sI (sI (sI (sI (sI σ (44 + c) d (if pv σ d 0 c = gi σ 21 c then -1 else pv σ d 0 c)) (51 + c) d (-1)) (58 + c) d (pv σ d 2 c)) (65 + c) d (pv σ d 3 c)) (72 + c) d (pv σ d 4 c)) (79 + c) d 0) (86 + c) d (-1)
theorem wake_eq {c d : Nat} (hc : c < 6) (hd : d < 60) (σ : PS) : fX1_wake (nI c) (nI d) σ = some (wkX σ c d) := by
  have g6 : inb (nI c) 6 = true := inb_nI hc (by decide)
  have g60 : inb (nI d) 60 = true := inb_nI hd (by decide)
  have tail : ∀ s0 : Int32, s0 = pv σ d 0 c → fX1_wake_18 (nI c) (nI d) s0 σ = some (wkX σ c d) := by
    intro s0 hs
    have body : ∀ h : Int32, fX1_wake_44 (nI c) (nI d) (nI c) (nI d) h σ = some (sI (sI (sI (sI (sI (sI (sI σ (44 + c) d h) (51 + c) d (-1)) (58 + c) d (pv σ d 2 c)) (65 + c) d (pv σ d 3 c)) (72 + c) d (pv σ d 4 c)) (79 + c) d 0) (86 + c) d (-1)) := by
      intro h
      unfold fX1_wake_44 fX1_wake_79 fX1_wake_105 fX1_wake_131
      simp only [gd_t g6, gd_t g60, r43 (i := c) (by omega), r50 (i := c) (by omega), r57 (i := c) (by omega), r64 (i := c) (by omega), r71 (i := c) (by omega), r78 (i := c) (by omega), r85 (i := c) (by omega), nI_clamp (n := d) (by omega)]
      cases d with
      | zero =>
        simp only [if_pos nI_0]
        rfl
      | succ e =>
        have g60' : inb (nI e) 60 = true := inb_nI (by omega) (by decide)
        have h0 : ¬ nI (e + 1) = 0 := nI_ne0 (by omega) (by omega)
        simp only [if_neg h0, nI_pred, gd_t g60', nI_clamp (n := e) (by omega)]
        simp (disch := omega) only [gi_ne]
        rfl
    unfold fX1_wake_18
    rw [gd_t g6, gd_t g6, nI_clamp (by omega), body, body]
    unfold wkX
    subst hs
    by_cases h : pv σ d 0 c = gi σ 21 c
    · rw [if_pos h, if_pos h]
    · rw [if_neg h, if_neg h]
  unfold fX1_wake
  cases d with
  | zero =>
    rw [if_pos nI_0]
    exact tail _ rfl
  | succ e =>
    have g60' : inb (nI e) 60 = true := inb_nI (by omega) (by decide)
    rw [if_neg (nI_ne0 (by omega) (by omega)), nI_pred, gd_t g6, gd_t g60', r43 (by omega), nI_clamp (by omega)]
    exact tail _ rfl
/-- the variables of a caravan, set -/
def svX (σ : PS) (c d : Nat) (i : Int32) : PS := sI (sI (sI (sI (sI (sI (sI (sI σ 42 0 (gi σ 17 c)) 42 1 (gi σ 18 c)) 42 2 (gi σ 19 c)) 42 3 (gi σ 23 c)) 42 4 (gi σ (58 + c) d)) 42 5 (nI d)) 42 6 i) 42 7 (gi σ (65 + c) d)
theorem setVars_eq {c d : Nat} (hc : c < 6) (hd : d < 60) (i : Int32) (σ : PS) : fX1_setVars (nI c) (nI d) i σ = some (svX σ c d i) := by
  have g6 : inb (nI c) 6 = true := inb_nI hc (by decide)
  have g60 : inb (nI d) 60 = true := inb_nI hd (by decide)
  unfold fX1_setVars
  simp only [gd_t g6, gd_t g60, nI_clamp (n := c) (show c < 2 ^ 31 by omega), nI_clamp (n := d) (show d < 2 ^ 31 by omega), r57 (i := c) (show c < 2 ^ 31 by omega), r64 (i := c) (show c < 2 ^ 31 by omega)]
  simp (disch := omega) only [gi_ne]
  rfl
theorem svX_vars {c d : Nat} (hc : c < 6) {i : Int32} {σ : PS} {e : TB} {hun lat : Int32} (h17 : gi σ 17 c = e 17 c) (h18 : gi σ 18 c = e 18 c) (h19 : gi σ 19 c = e 19 c) (h23 : gi σ 23 c = e 23 c) (hh : gi σ (58 + c) d = hun) (hl : gi σ (65 + c) d = lat) : ∀ k, k < 8 → gi (svX σ c d i) 42 k = vrS e c hun lat d i k := by
  intro k hk
  unfold svX vrS
  rw [h17, h18, h19, h23, hh, hl]
  match k, hk with
  | 0, _ => rfl
  | 1, _ => rfl
  | 2, _ => rfl
  | 3, _ => rfl
  | 4, _ => rfl
  | 5, _ => rfl
  | 6, _ => rfl
  | 7, _ => rfl
theorem svX_ne {σ : PS} {c d : Nat} {i : Int32} {k j : Nat} (h : k ≠ 42) : gi (svX σ c d i) k j = gi σ k j := by
  unfold svX
  simp (disch := omega) only [gi_ne]
