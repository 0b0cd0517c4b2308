/-! feed and back -/
theorem low8 {a b : Int32} (h : a.toInt % 256 = b.toInt % 256) : a.toInt8 = b.toInt8 := by
  apply Int8.toInt_inj.mp
  rw [Int32.toInt_toInt8, Int32.toInt_toInt8]
  unfold Int.bmod
  have h' : a.toInt % ((2 ^ 8 : Nat) : Int) = b.toInt % ((2 ^ 8 : Nat) : Int) := h
  simp only [h']
theorem tn_mod (a : Int32) : a.toInt % 256 = ((a.toBitVec.toNat : Nat) : Int) % 256 := by
  have h : a.toInt = a.toBitVec.toInt := rfl
  rw [h, BitVec.toInt_eq_toNat_cond]
  split <;> omega
theorem tn_int (a : Int32) : (a.toInt = (a.toBitVec.toNat : Int) ∨ a.toInt = (a.toBitVec.toNat : Int) - 4294967296) := by
  have h : a.toInt = a.toBitVec.toInt := rfl
  rw [h, BitVec.toInt_eq_toNat_cond]
  split
  · exact Or.inl rfl
  · right
    rfl
/-- a byte of a word, by either shift -/
theorem sh_byte (x s : Int32) (k : Nat) (hk : k = 24 ∨ k = 16 ∨ k = 8 ∨ k = 0) (h1 : ((s.toUInt32 &&& Int32.toUInt32 31).toBitVec % 32).toNat = k) (h2 : ((s &&& 31).toBitVec.smod 32).toNat = k) : (x.toUInt32 >>> (s.toUInt32 &&& Int32.toUInt32 31)).toInt32.toInt8 = (x >>> (s &&& 31)).toInt8 := by
  apply low8
  rw [tn_mod, pk_ushr x s k h1, pk_shr x (s &&& 31) k h2, Int.shiftRight_eq_div_pow]
  rcases hk with rfl | rfl | rfl | rfl <;> rcases tn_int x with h | h <;> rw [h] <;> simp <;> omega
def byC (x k : Int32) : Int32 := vp_nar .byte ((x.toUInt32 >>> (k.toUInt32 &&& Int32.toUInt32 31)).toInt32 : Int32).toInt8.toInt32
def byM (x k : Int32) : Int32 := vp_nar .byte ((x >>> (k &&& 31)) : Int32).toInt8.toInt32
theorem byCM24 (x : Int32) : byC x 24 = byM x 24 := by
  unfold byC byM
  rw [sh_byte x 24 24 (by decide) (by decide) (by decide)]
theorem byCM16 (x : Int32) : byC x 16 = byM x 16 := by
  unfold byC byM
  rw [sh_byte x 16 16 (by decide) (by decide) (by decide)]
theorem byCM8 (x : Int32) : byC x 8 = byM x 8 := by
  unfold byC byM
  rw [sh_byte x 8 8 (by decide) (by decide) (by decide)]
theorem byCM0 (x : Int32) : byC x 0 = byM x 0 := by
  unfold byC byM
  rw [sh_byte x 0 0 (by decide) (by decide) (by decide)]
theorem app_step (m n : Nat) (x k : Int32) (σ : PS) (hk : ¬ k < 0) (hn : n < 2000) (hl : gi σ 1 1 = nI n) : fX7_append_3 (m + 1) x k σ = fX7_append_3 m x (k + (-8)) (sI (sI σ 2 n (byC x k)) 1 1 (nI (n + 1))) := by
  rw [fX7_append_3, if_neg hk, hl, if_neg (show ¬ (2000 : Int32) ≤ nI n from nI_ge (b := 2000) hn (by decide)), gd_t (inb_nI hn (by omega)), nI_clamp (by omega), gi_ne (by decide), hl, nI_1]
  rfl
theorem put_step (m n : Nat) (x k : Int32) (σ : PS) (hk : ¬ k < 0) (hn : n < 2000) (hl : gi σ 132 2 = nI n) : fX9_put_3 (m + 1) x k σ = fX9_put_3 m x (k + (-8)) (sI (sI σ 133 n (byM x k)) 132 2 (nI (n + 1))) := by
  rw [fX9_put_3, if_neg hk, hl, gd_t (inb_nI hn (by omega)), nI_clamp (by omega), gi_ne (by decide), hl, nI_1]
  rfl
