section G
variable {g : GP}
def fX9_put_3 : Nat → Int32 → Int32 → PS → Option (PS)
  | 0, _, _, _ => none
  | n + 1, x1, x2, σ => (if x2 < 0 then some σ else gd (inb (gi σ 132 2) 2000) (fX9_put_3 n x1 (x2 + (-8)) (sI (sI σ 133 ((gi σ 132 2) : Int32).toNatClampNeg (vp_nar .byte ((x1 >>> (x2 &&& 31)) : Int32).toInt8.toInt32)) 132 2 ((gi (sI σ 133 ((gi σ 132 2) : Int32).toNatClampNeg (vp_nar .byte ((x1 >>> (x2 &&& 31)) : Int32).toInt8.toInt32)) 132 2) + 1))))
set_option maxRecDepth 100000 in
set_option maxHeartbeats 4000000 in
theorem tX9_put_3 {P : PS → Prop} : ∀ (n : Nat) (x1 : Int32) (x2 : Int32) (σ : PS), hO (fX9_put_3 n x1 x2 σ) P → X g mX9_put 0 0 0 (pV P) 3 [(0, .ref 132), (1, .int x1), (2, .int x2)] [] (HP σ) := by
  intro n
  induction n with
  | zero =>
    intro x1 x2 σ h
    rw [fX9_put_3] at h
    exact (hO_none h).elim
  | succ n ih =>
    intro x1 x2 σ h
    rw [fX9_put_3] at h
    refine X_iload_n 2 rfl (dk KX9_put 2 rfl) ?_
    refine X_if_lt 36 (dk KX9_put 3 rfl) (by decide) (fun hc => ?_) (fun hc => ?_)
    · have h := hO_t hc h
      exact Y_vret (dk KX9_put 21 rfl) rfl h
    · have h := hO_f hc h
      refine X_aload_n 0 rfl (dk KX9_put 4 rfl) ?_
      refine Y_getR 133 fX9_13 (Nat.le_of_ble_eq_true rfl) rfl rfl (dk KX9_put 5 rfl) ?_
      refine X_aload_n 0 rfl (dk KX9_put 6 rfl) ?_
      refine Y_getI fX9_207 (Nat.le_of_ble_eq_true rfl) rfl (dk KX9_put 7 rfl) ?_
      refine X_iload_n 1 rfl (dk KX9_put 8 rfl) ?_
      refine X_iload_n 2 rfl (dk KX9_put 9 rfl) ?_
      refine X_ishr (dk KX9_put 10 rfl) ?_
      refine X_i2b (dk KX9_put 11 rfl) ?_
      refine Y_bast (Nat.le_of_ble_eq_true rfl) rfl (dk KX9_put 12 rfl) h (fun hi1 h => ?_)
      refine X_aload_n 0 rfl (dk KX9_put 13 rfl) ?_
      refine X_dup (dk KX9_put 14 rfl) rfl ?_
      refine Y_getI fX9_207 (Nat.le_of_ble_eq_true rfl) rfl (dk KX9_put 15 rfl) ?_
      refine X_iconst (dk KX9_put 16 rfl) 1 (by decide) ?_
      refine X_iadd (dk KX9_put 17 rfl) ?_
      refine Y_putI fX9_207 rfl (Nat.le_of_ble_eq_true rfl) rfl (dk KX9_put 18 rfl) ?_
      refine X_iinc 2 (-8) [(2, .int (x2 + (-8))), (0, .ref 132), (1, .int x1)] (dk KX9_put 19 rfl) rfl (by decide) (by decide) rfl ?_
      refine X_goto 3 (dk KX9_put 20 rfl) (by decide) ?_
      refine X_sub [(0, .ref 132), (1, .int x1), (2, .int (x2 + (-8)))] [1, 2, 0] rfl ?_
      exact ih x1 (x2 + (-8)) (sI (sI σ 133 ((gi σ 132 2) : Int32).toNatClampNeg (vp_nar .byte ((x1 >>> (x2 &&& 31)) : Int32).toInt8.toInt32)) 132 2 ((gi (sI σ 133 ((gi σ 132 2) : Int32).toNatClampNeg (vp_nar .byte ((x1 >>> (x2 &&& 31)) : Int32).toInt8.toInt32)) 132 2) + 1)) h
def fX9_put (a1 : Int32) (σ : PS) : Option (PS) := fX9_put_3 FU a1 24 σ
set_option maxRecDepth 100000 in
set_option maxHeartbeats 4000000 in
theorem okX9_put (a1 : Int32) (σ : PS) (P : PS → Prop) (h : hO (fX9_put a1 σ) P) : CON g mX9_put 0 0 0 [.ref 132, .int a1] (HP σ) (pV P) := by
  refine CON.of (by decide) (by simp [lg_sl, Value.category]) ?_
  show X g _ _ _ _ _ 0 [(0, .ref 132), (1, .int a1)] [] _
  unfold fX9_put at h
  refine X_bipush (dk KX9_put 0 rfl) 24 (by decide) ?_
  refine X_istore_n [(2, .int 24), (0, .ref 132), (1, .int a1)] (dk KX9_put 1 rfl) (by decide) rfl ?_
  refine X_sub [(0, .ref 132), (1, .int a1), (2, .int 24)] [1, 2, 0] rfl ?_
  exact tX9_put_3 FU a1 24 σ h

def fX9_feed (a1 : Int32) (a2 : Int32) (a3 : Int32) (a4 : Int32) (a5 : Int32) (σ : PS) : Option (Int32 × PS) := (if ((gi σ 132 2) + 20) ≤ 2000 then (fX9_put a1 σ).bind (fun σ2 => (fX9_put a2 σ2).bind (fun σ5 => (fX9_put a3 σ5).bind (fun σ8 => (fX9_put a4 σ8).bind (fun σ11 => (fX9_put a5 σ11).bind (fun σ14 => some ((gi σ14 132 2), σ14)))))) else some ((-1), σ))
set_option maxRecDepth 100000 in
set_option maxHeartbeats 4000000 in
theorem okX9_feed (a1 : Int32) (a2 : Int32) (a3 : Int32) (a4 : Int32) (a5 : Int32) (σ : PS) (P : Int32 × PS → Prop) (h : hO (fX9_feed a1 a2 a3 a4 a5 σ) P) : CON g mX9_feed 1 0 0 [.ref 132, .int a1, .int a2, .int a3, .int a4, .int a5] (HP σ) (pI P) := by
  refine CON.of (by decide) (by simp [lg_sl, Value.category]) ?_
  show X g _ _ _ _ _ 0 [(0, .ref 132), (1, .int a1), (2, .int a2), (3, .int a3), (4, .int a4), (5, .int a5)] [] _
  unfold fX9_feed at h
  refine X_aload_n 0 rfl (dk KX9_feed 0 rfl) ?_
  refine Y_getI fX9_207 (Nat.le_of_ble_eq_true rfl) rfl (dk KX9_feed 1 rfl) ?_
  refine X_bipush (dk KX9_feed 2 rfl) 20 (by decide) ?_
  refine X_iadd (dk KX9_feed 3 rfl) ?_
  refine X_sipush (dk KX9_feed 4 rfl) 2000 (by decide) ?_
  refine X_icmp_le 15 (dk KX9_feed 5 rfl) (by decide) (fun hc => ?_) (fun hc => ?_)
  · have h := hO_t hc h
    refine X_aload_n 0 rfl (dk KX9_feed 8 rfl) ?_
    refine X_iload_n 1 rfl (dk KX9_feed 9 rfl) ?_
    refine Y_callVV wX9_210 (Nat.le_of_ble_eq_true rfl) rfl [.int a1] [] rfl rfl (Nat.le_of_ble_eq_true rfl) (Nat.le_of_ble_eq_true rfl) (dk KX9_feed 10 rfl) (fun Pc h => okX9_put _ _ Pc h) h (fun σ2 e3 h => ?_)
    try dsimp only at h
    refine X_aload_n 0 rfl (dk KX9_feed 11 rfl) ?_
    refine X_iload_n 2 rfl (dk KX9_feed 12 rfl) ?_
    refine Y_callVV wX9_210 (Nat.le_of_ble_eq_true rfl) rfl [.int a2] [] rfl rfl (Nat.le_of_ble_eq_true rfl) (Nat.le_of_ble_eq_true rfl) (dk KX9_feed 13 rfl) (fun Pc h => okX9_put _ _ Pc h) h (fun σ5 e6 h => ?_)
    try dsimp only at h
    refine X_aload_n 0 rfl (dk KX9_feed 14 rfl) ?_
    refine X_iload_n 3 rfl (dk KX9_feed 15 rfl) ?_
    refine Y_callVV wX9_210 (Nat.le_of_ble_eq_true rfl) rfl [.int a3] [] rfl rfl (Nat.le_of_ble_eq_true rfl) (Nat.le_of_ble_eq_true rfl) (dk KX9_feed 16 rfl) (fun Pc h => okX9_put _ _ Pc h) h (fun σ8 e9 h => ?_)
    try dsimp only at h
    refine X_aload_n 0 rfl (dk KX9_feed 17 rfl) ?_
    refine X_iload 4 rfl (dk KX9_feed 18 rfl) ?_
    refine Y_callVV wX9_210 (Nat.le_of_ble_eq_true rfl) rfl [.int a4] [] rfl rfl (Nat.le_of_ble_eq_true rfl) (Nat.le_of_ble_eq_true rfl) (dk KX9_feed 19 rfl) (fun Pc h => okX9_put _ _ Pc h) h (fun σ11 e12 h => ?_)
    try dsimp only at h
    refine X_aload_n 0 rfl (dk KX9_feed 20 rfl) ?_
    refine X_iload 5 rfl (dk KX9_feed 21 rfl) ?_
    refine Y_callVV wX9_210 (Nat.le_of_ble_eq_true rfl) rfl [.int a5] [] rfl rfl (Nat.le_of_ble_eq_true rfl) (Nat.le_of_ble_eq_true rfl) (dk KX9_feed 22 rfl) (fun Pc h => okX9_put _ _ Pc h) h (fun σ14 e15 h => ?_)
    try dsimp only at h
    refine X_aload_n 0 rfl (dk KX9_feed 23 rfl) ?_
    refine Y_getI fX9_207 (Nat.le_of_ble_eq_true rfl) rfl (dk KX9_feed 24 rfl) ?_
    exact Y_iret (dk KX9_feed 25 rfl) rfl h
  · have h := hO_f hc h
    refine X_iconst (dk KX9_feed 6 rfl) (-1) (by decide) ?_
    exact Y_iret (dk KX9_feed 7 rfl) rfl h

def fX9_back (a1 : Int32) (σ : PS) : Option (Int32 × PS) := (if a1 < 0 then some ((-1), σ) else (if a1 ≤ (gi σ 132 2) then some ((gi (sI σ 132 2 ((gi σ 132 2) - a1)) 132 2), (sI σ 132 2 ((gi σ 132 2) - a1))) else some ((-1), σ)))
set_option maxRecDepth 100000 in
set_option maxHeartbeats 4000000 in
theorem okX9_back (a1 : Int32) (σ : PS) (P : Int32 × PS → Prop) (h : hO (fX9_back a1 σ) P) : CON g mX9_back 0 0 0 [.ref 132, .int a1] (HP σ) (pI P) := by
  refine CON.of (by decide) (by simp [lg_sl, Value.category]) ?_
  show X g _ _ _ _ _ 0 [(0, .ref 132), (1, .int a1)] [] _
  unfold fX9_back at h
  refine X_iload_n 1 rfl (dk KX9_back 0 rfl) ?_
  refine X_if_lt 12 (dk KX9_back 1 rfl) (by decide) (fun hc => ?_) (fun hc => ?_)
  · have h := hO_t hc h
    refine X_iconst (dk KX9_back 6 rfl) (-1) (by decide) ?_
    exact Y_iret (dk KX9_back 7 rfl) rfl h
  · have h := hO_f hc h
    refine X_iload_n 1 rfl (dk KX9_back 2 rfl) ?_
    refine X_aload_n 0 rfl (dk KX9_back 3 rfl) ?_
    refine Y_getI fX9_207 (Nat.le_of_ble_eq_true rfl) rfl (dk KX9_back 4 rfl) ?_
    refine X_icmp_le 14 (dk KX9_back 5 rfl) (by decide) (fun hc => ?_) (fun hc => ?_)
    · have h := hO_t hc h
      refine X_aload_n 0 rfl (dk KX9_back 8 rfl) ?_
      refine X_dup (dk KX9_back 9 rfl) rfl ?_
      refine Y_getI fX9_207 (Nat.le_of_ble_eq_true rfl) rfl (dk KX9_back 10 rfl) ?_
      refine X_iload_n 1 rfl (dk KX9_back 11 rfl) ?_
      refine X_isub (dk KX9_back 12 rfl) ?_
      refine Y_putI fX9_207 rfl (Nat.le_of_ble_eq_true rfl) rfl (dk KX9_back 13 rfl) ?_
      refine X_aload_n 0 rfl (dk KX9_back 14 rfl) ?_
      refine Y_getI fX9_207 (Nat.le_of_ble_eq_true rfl) rfl (dk KX9_back 15 rfl) ?_
      exact Y_iret (dk KX9_back 16 rfl) rfl h
    · have h := hO_f hc h
      refine X_iconst (dk KX9_back 6 rfl) (-1) (by decide) ?_
      exact Y_iret (dk KX9_back 7 rfl) rfl h

def fX9_at (a1 : Int32) (σ : PS) : Option (Int32 × PS) := (if (gi σ 132 4) ≤ a1 then some (0, σ) else gd (inb a1 2000) (some (((gi σ 134 (a1 : Int32).toNatClampNeg) &&& 255), σ)))
set_option maxRecDepth 100000 in
set_option maxHeartbeats 4000000 in
theorem okX9_at (a1 : Int32) (σ : PS) (P : Int32 × PS → Prop) (h : hO (fX9_at a1 σ) P) : CON g mX9_at 0 0 0 [.ref 132, .int a1] (HP σ) (pI P) := by
  refine CON.of (by decide) (by simp [lg_sl, Value.category]) ?_
  show X g _ _ _ _ _ 0 [(0, .ref 132), (1, .int a1)] [] _
  unfold fX9_at at h
  refine X_iload_n 1 rfl (dk KX9_at 0 rfl) ?_
  refine X_aload_n 0 rfl (dk KX9_at 1 rfl) ?_
  refine Y_getI fX9_214 (Nat.le_of_ble_eq_true rfl) rfl (dk KX9_at 2 rfl) ?_
  refine X_icmp_ge 21 (dk KX9_at 3 rfl) (by decide) (fun hc => ?_) (fun hc => ?_)
  · have h := hO_t hc h
    refine X_iconst (dk KX9_at 11 rfl) 0 (by decide) ?_
    exact Y_iret (dk KX9_at 12 rfl) rfl h
  · have h := hO_f hc h
    refine X_aload_n 0 rfl (dk KX9_at 4 rfl) ?_
    refine Y_getR 134 fX9_17 (Nat.le_of_ble_eq_true rfl) rfl rfl (dk KX9_at 5 rfl) ?_
    refine X_iload_n 1 rfl (dk KX9_at 6 rfl) ?_
    refine Y_bald (Nat.le_of_ble_eq_true rfl) rfl (dk KX9_at 7 rfl) h (fun hi1 h => ?_)
    refine X_sipush (dk KX9_at 8 rfl) 255 (by decide) ?_
    refine X_iand (dk KX9_at 9 rfl) ?_
    refine X_goto 22 (dk KX9_at 10 rfl) (by decide) ?_
    exact Y_iret (dk KX9_at 12 rfl) rfl h

def fX9_isDigit (a0 : Int32) (σ : PS) : Option (Int32 × PS) := (if a0 < 48 then some (0, σ) else (if 57 < a0 then some (0, σ) else some (1, σ)))
set_option maxRecDepth 100000 in
set_option maxHeartbeats 4000000 in
theorem okX9_isDigit (a0 : Int32) (σ : PS) (P : Int32 × PS → Prop) (h : hO (fX9_isDigit a0 σ) P) : CON g mX9_isDigit 0 0 0 [.int a0] (HP σ) (pI P) := by
  refine CON.of (by decide) (by simp [lg_sl, Value.category]) ?_
  show X g _ _ _ _ _ 0 [(0, .int a0)] [] _
  unfold fX9_isDigit at h
  refine X_iload_n 0 rfl (dk KX9_isDigit 0 rfl) ?_
  refine X_bipush (dk KX9_isDigit 1 rfl) 48 (by decide) ?_
  refine X_icmp_lt 16 (dk KX9_isDigit 2 rfl) (by decide) (fun hc => ?_) (fun hc => ?_)
  · have h := hO_t hc h
    refine X_iconst (dk KX9_isDigit 8 rfl) 0 (by decide) ?_
    exact Y_zret (dk KX9_isDigit 9 rfl) rfl (by decide) h
  · have h := hO_f hc h
    refine X_iload_n 0 rfl (dk KX9_isDigit 3 rfl) ?_
    refine X_bipush (dk KX9_isDigit 4 rfl) 57 (by decide) ?_
    refine X_icmp_gt 16 (dk KX9_isDigit 5 rfl) (by decide) (fun hc => ?_) (fun hc => ?_)
    · have h := hO_t hc h
      refine X_iconst (dk KX9_isDigit 8 rfl) 0 (by decide) ?_
      exact Y_zret (dk KX9_isDigit 9 rfl) rfl (by decide) h
    · have h := hO_f hc h
      refine X_iconst (dk KX9_isDigit 6 rfl) 1 (by decide) ?_
      refine X_goto 17 (dk KX9_isDigit 7 rfl) (by decide) ?_
      exact Y_zret (dk KX9_isDigit 9 rfl) rfl (by decide) h

def fX9_isLetter (a0 : Int32) (σ : PS) : Option (Int32 × PS) := (if a0 < 97 then some (0, σ) else (if 122 < a0 then some (0, σ) else some (1, σ)))
set_option maxRecDepth 100000 in
set_option maxHeartbeats 4000000 in
theorem okX9_isLetter (a0 : Int32) (σ : PS) (P : Int32 × PS → Prop) (h : hO (fX9_isLetter a0 σ) P) : CON g mX9_isLetter 0 0 0 [.int a0] (HP σ) (pI P) := by
  refine CON.of (by decide) (by simp [lg_sl, Value.category]) ?_
  show X g _ _ _ _ _ 0 [(0, .int a0)] [] _
  unfold fX9_isLetter at h
  refine X_iload_n 0 rfl (dk KX9_isLetter 0 rfl) ?_
  refine X_bipush (dk KX9_isLetter 1 rfl) 97 (by decide) ?_
  refine X_icmp_lt 16 (dk KX9_isLetter 2 rfl) (by decide) (fun hc => ?_) (fun hc => ?_)
  · have h := hO_t hc h
    refine X_iconst (dk KX9_isLetter 8 rfl) 0 (by decide) ?_
    exact Y_zret (dk KX9_isLetter 9 rfl) rfl (by decide) h
  · have h := hO_f hc h
    refine X_iload_n 0 rfl (dk KX9_isLetter 3 rfl) ?_
    refine X_bipush (dk KX9_isLetter 4 rfl) 122 (by decide) ?_
    refine X_icmp_gt 16 (dk KX9_isLetter 5 rfl) (by decide) (fun hc => ?_) (fun hc => ?_)
    · have h := hO_t hc h
      refine X_iconst (dk KX9_isLetter 8 rfl) 0 (by decide) ?_
      exact Y_zret (dk KX9_isLetter 9 rfl) rfl (by decide) h
    · have h := hO_f hc h
      refine X_iconst (dk KX9_isLetter 6 rfl) 1 (by decide) ?_
      refine X_goto 17 (dk KX9_isLetter 7 rfl) (by decide) ?_
      exact Y_zret (dk KX9_isLetter 9 rfl) rfl (by decide) h

def fX9_more (a0 : Int64) (a2 : Int32) (σ : PS) : Option (Int64 × PS) := (if a2 = 0 then some (a0, σ) else some (((27 * a0) + (((a2 - 97) + 1) : Int32).toInt64), σ))
set_option maxRecDepth 100000 in
set_option maxHeartbeats 4000000 in
theorem okX9_more (a0 : Int64) (a2 : Int32) (σ : PS) (P : Int64 × PS → Prop) (h : hO (fX9_more a0 a2 σ) P) : CON g mX9_more 0 0 0 [.long a0, .int a2] (HP σ) (pL P) := by
  refine CON.of (by decide) (by simp [lg_sl, Value.category]) ?_
  show X g _ _ _ _ _ 0 [(0, .long a0), (2, .int a2)] [] _
  unfold fX9_more at h
  refine X_iload_n 1 rfl (dk KX9_more 0 rfl) ?_
  refine X_if_ne 8 (dk KX9_more 1 rfl) (by decide) (fun hc => ?_) (fun hc => ?_)
  · have h := hO_f hc h
    refine X_ldc2 27 cstX9_217 (dk KX9_more 4 rfl) ?_
    refine X_lload_n 0 rfl (dk KX9_more 5 rfl) ?_
    refine X_lmul (dk KX9_more 6 rfl) ?_
    refine X_iload_n 1 rfl (dk KX9_more 7 rfl) ?_
    refine X_bipush (dk KX9_more 8 rfl) 97 (by decide) ?_
    refine X_isub (dk KX9_more 9 rfl) ?_
    refine X_iconst (dk KX9_more 10 rfl) 1 (by decide) ?_
    refine X_iadd (dk KX9_more 11 rfl) ?_
    refine X_i2l (dk KX9_more 12 rfl) ?_
    refine X_ladd (dk KX9_more 13 rfl) ?_
    exact Y_lret (dk KX9_more 14 rfl) rfl h
  · have h := hO_t hc h
    refine X_lload_n 0 rfl (dk KX9_more 2 rfl) ?_
    refine X_goto 21 (dk KX9_more 3 rfl) (by decide) ?_
    exact Y_lret (dk KX9_more 14 rfl) rfl h

def fX9_token (a1 : Int32) (a2 : Int32) (a3 : Int32) (a4 : Int64) (σ : PS) : Option (PS) := gd (inb (gi σ 132 10) 403) (gd (inb (gi (sI σ 135 ((gi σ 132 10) : Int32).toNatClampNeg a1) 132 10) 403) (gd (inb (gi (sI (sI σ 135 ((gi σ 132 10) : Int32).toNatClampNeg a1) 136 ((gi (sI σ 135 ((gi σ 132 10) : Int32).toNatClampNeg a1) 132 10) : Int32).toNatClampNeg a2) 132 10) 403) (gd (inb (gi (sI (sI (sI σ 135 ((gi σ 132 10) : Int32).toNatClampNeg a1) 136 ((gi (sI σ 135 ((gi σ 132 10) : Int32).toNatClampNeg a1) 132 10) : Int32).toNatClampNeg a2) 137 ((gi (sI (sI σ 135 ((gi σ 132 10) : Int32).toNatClampNeg a1) 136 ((gi (sI σ 135 ((gi σ 132 10) : Int32).toNatClampNeg a1) 132 10) : Int32).toNatClampNeg a2) 132 10) : Int32).toNatClampNeg a3) 132 10) 403) (some (sI (sJ (sI (sI (sI σ 135 ((gi σ 132 10) : Int32).toNatClampNeg a1) 136 ((gi (sI σ 135 ((gi σ 132 10) : Int32).toNatClampNeg a1) 132 10) : Int32).toNatClampNeg a2) 137 ((gi (sI (sI σ 135 ((gi σ 132 10) : Int32).toNatClampNeg a1) 136 ((gi (sI σ 135 ((gi σ 132 10) : Int32).toNatClampNeg a1) 132 10) : Int32).toNatClampNeg a2) 132 10) : Int32).toNatClampNeg a3) 138 ((gi (sI (sI (sI σ 135 ((gi σ 132 10) : Int32).toNatClampNeg a1) 136 ((gi (sI σ 135 ((gi σ 132 10) : Int32).toNatClampNeg a1) 132 10) : Int32).toNatClampNeg a2) 137 ((gi (sI (sI σ 135 ((gi σ 132 10) : Int32).toNatClampNeg a1) 136 ((gi (sI σ 135 ((gi σ 132 10) : Int32).toNatClampNeg a1) 132 10) : Int32).toNatClampNeg a2) 132 10) : Int32).toNatClampNeg a3) 132 10) : Int32).toNatClampNeg a4) 132 10 ((gi (sJ (sI (sI (sI σ 135 ((gi σ 132 10) : Int32).toNatClampNeg a1) 136 ((gi (sI σ 135 ((gi σ 132 10) : Int32).toNatClampNeg a1) 132 10) : Int32).toNatClampNeg a2) 137 ((gi (sI (sI σ 135 ((gi σ 132 10) : Int32).toNatClampNeg a1) 136 ((gi (sI σ 135 ((gi σ 132 10) : Int32).toNatClampNeg a1) 132 10) : Int32).toNatClampNeg a2) 132 10) : Int32).toNatClampNeg a3) 138 ((gi (sI (sI (sI σ 135 ((gi σ 132 10) : Int32).toNatClampNeg a1) 136 ((gi (sI σ 135 ((gi σ 132 10) : Int32).toNatClampNeg a1) 132 10) : Int32).toNatClampNeg a2) 137 ((gi (sI (sI σ 135 ((gi σ 132 10) : Int32).toNatClampNeg a1) 136 ((gi (sI σ 135 ((gi σ 132 10) : Int32).toNatClampNeg a1) 132 10) : Int32).toNatClampNeg a2) 132 10) : Int32).toNatClampNeg a3) 132 10) : Int32).toNatClampNeg a4) 132 10) + 1))))))
set_option maxRecDepth 100000 in
set_option maxHeartbeats 4000000 in
theorem okX9_token (a1 : Int32) (a2 : Int32) (a3 : Int32) (a4 : Int64) (σ : PS) (P : PS → Prop) (h : hO (fX9_token a1 a2 a3 a4 σ) P) : CON g mX9_token 0 0 0 [.ref 132, .int a1, .int a2, .int a3, .long a4] (HP σ) (pV P) := by
  refine CON.of (by decide) (by simp [lg_sl, Value.category]) ?_
  show X g _ _ _ _ _ 0 [(0, .ref 132), (1, .int a1), (2, .int a2), (3, .int a3), (4, .long a4)] [] _
  unfold fX9_token at h
  refine X_aload_n 0 rfl (dk KX9_token 0 rfl) ?_
  refine Y_getR 135 fX9_20 (Nat.le_of_ble_eq_true rfl) rfl rfl (dk KX9_token 1 rfl) ?_
  refine X_aload_n 0 rfl (dk KX9_token 2 rfl) ?_
  refine Y_getI fX9_223 (Nat.le_of_ble_eq_true rfl) rfl (dk KX9_token 3 rfl) ?_
  refine X_iload_n 1 rfl (dk KX9_token 4 rfl) ?_
  refine Y_iast (Nat.le_of_ble_eq_true rfl) rfl (dk KX9_token 5 rfl) h (fun hi1 h => ?_)
  refine X_aload_n 0 rfl (dk KX9_token 6 rfl) ?_
  refine Y_getR 136 fX9_24 (Nat.le_of_ble_eq_true rfl) rfl rfl (dk KX9_token 7 rfl) ?_
  refine X_aload_n 0 rfl (dk KX9_token 8 rfl) ?_
  refine Y_getI fX9_223 (Nat.le_of_ble_eq_true rfl) rfl (dk KX9_token 9 rfl) ?_
  refine X_iload_n 2 rfl (dk KX9_token 10 rfl) ?_
  refine Y_iast (Nat.le_of_ble_eq_true rfl) rfl (dk KX9_token 11 rfl) h (fun hi2 h => ?_)
  refine X_aload_n 0 rfl (dk KX9_token 12 rfl) ?_
  refine Y_getR 137 fX9_27 (Nat.le_of_ble_eq_true rfl) rfl rfl (dk KX9_token 13 rfl) ?_
  refine X_aload_n 0 rfl (dk KX9_token 14 rfl) ?_
  refine Y_getI fX9_223 (Nat.le_of_ble_eq_true rfl) rfl (dk KX9_token 15 rfl) ?_
  refine X_iload_n 3 rfl (dk KX9_token 16 rfl) ?_
  refine Y_iast (Nat.le_of_ble_eq_true rfl) rfl (dk KX9_token 17 rfl) h (fun hi3 h => ?_)
  refine X_aload_n 0 rfl (dk KX9_token 18 rfl) ?_
  refine Y_getR 138 fX9_30 (Nat.le_of_ble_eq_true rfl) rfl rfl (dk KX9_token 19 rfl) ?_
  refine X_aload_n 0 rfl (dk KX9_token 20 rfl) ?_
  refine Y_getI fX9_223 (Nat.le_of_ble_eq_true rfl) rfl (dk KX9_token 21 rfl) ?_
  refine X_lload 4 rfl (dk KX9_token 22 rfl) ?_
  refine Y_last (Nat.le_of_ble_eq_true rfl) rfl (dk KX9_token 23 rfl) h (fun hi4 h => ?_)
  refine X_aload_n 0 rfl (dk KX9_token 24 rfl) ?_
  refine X_dup (dk KX9_token 25 rfl) rfl ?_
  refine Y_getI fX9_223 (Nat.le_of_ble_eq_true rfl) rfl (dk KX9_token 26 rfl) ?_
  refine X_iconst (dk KX9_token 27 rfl) 1 (by decide) ?_
  refine X_iadd (dk KX9_token 28 rfl) ?_
  refine Y_putI fX9_223 rfl (Nat.le_of_ble_eq_true rfl) rfl (dk KX9_token 29 rfl) ?_
  exact Y_vret (dk KX9_token 30 rfl) rfl h

def fX9_sign_148 (x1 : Int32) (x4 : Int32) (x5 : Int32) (σ : PS) : Option (Int32 × PS) := (fX9_token x5 x1 0 0 σ).bind (fun σ2 => (if x4 ≤ 0 then some (1, σ2) else some (2, σ2)))
set_option maxRecDepth 100000 in
set_option maxHeartbeats 4000000 in
theorem tX9_sign_148 {P : Int32 × PS → Prop} (x1 : Int32) (x4 : Int32) (x5 : Int32) (σ : PS) (h : hO (fX9_sign_148 x1 x4 x5 σ) P) : X g mX9_sign 1 0 0 (pI P) 148 [(0, .ref 132), (1, .int x1), (4, .int x4), (5, .int x5)] [] (HP σ) := by
  unfold fX9_sign_148 at h
  refine X_aload_n 0 rfl (dk KX9_sign 70 rfl) ?_
  refine X_iload 3 rfl (dk KX9_sign 71 rfl) ?_
  refine X_iload_n 1 rfl (dk KX9_sign 72 rfl) ?_
  refine X_iconst (dk KX9_sign 73 rfl) 0 (by decide) ?_
  refine X_lconst (dk KX9_sign 74 rfl) 0 (by decide) ?_
  refine Y_callVV wX9_229 (Nat.le_of_ble_eq_true rfl) rfl [.int x5, .int x1, .int 0, .long 0] [] rfl rfl (Nat.le_of_ble_eq_true rfl) (Nat.le_of_ble_eq_true rfl) (dk KX9_sign 75 rfl) (fun Pc h => okX9_token _ _ _ _ _ Pc h) h (fun σ2 e3 h => ?_)
  try dsimp only at h
  refine X_iload 2 rfl (dk KX9_sign 76 rfl) ?_
  refine X_if_le 166 (dk KX9_sign 77 rfl) (by decide) (fun hc => ?_) (fun hc => ?_)
  · have h := hO_t hc h
    refine X_iconst (dk KX9_sign 80 rfl) 1 (by decide) ?_
    exact Y_iret (dk KX9_sign 81 rfl) rfl h
  · have h := hO_f hc h
    refine X_iconst (dk KX9_sign 78 rfl) 2 (by decide) ?_
    refine X_goto 167 (dk KX9_sign 79 rfl) (by decide) ?_
    exact Y_iret (dk KX9_sign 81 rfl) rfl h
def fX9_sign_44 (x1 : Int32) (x2 : Int32) (s0 : Int32) (σ : PS) : Option (Int32 × PS) := (if s0 ≤ 0 then (if x2 = 59 then fX9_sign_148 x1 s0 4 σ else (if x2 = 40 then fX9_sign_148 x1 s0 6 σ else (if x2 = 41 then fX9_sign_148 x1 s0 7 σ else (if x2 = 43 then fX9_sign_148 x1 s0 8 σ else (if x2 = 45 then fX9_sign_148 x1 s0 9 σ else (if x2 = 42 then fX9_sign_148 x1 s0 10 σ else (if x2 = 60 then fX9_sign_148 x1 s0 13 σ else fX9_sign_148 x1 s0 3 σ))))))) else fX9_sign_148 x1 s0 s0 σ)
set_option maxRecDepth 100000 in
set_option maxHeartbeats 4000000 in
theorem tX9_sign_44 {P : Int32 × PS → Prop} (x1 : Int32) (x2 : Int32) (s0 : Int32) (σ : PS) (h : hO (fX9_sign_44 x1 x2 s0 σ) P) : X g mX9_sign 1 0 0 (pI P) 44 [(0, .ref 132), (1, .int x1), (2, .int x2)] [.int s0] (HP σ) := by
  unfold fX9_sign_44 at h
  refine X_istore [(4, .int s0), (0, .ref 132), (1, .int x1), (2, .int x2)] (dk KX9_sign 21 rfl) (by decide) rfl ?_
  refine X_iconst (dk KX9_sign 22 rfl) 3 (by decide) ?_
  refine X_istore [(5, .int 3), (4, .int s0), (0, .ref 132), (1, .int x1), (2, .int x2)] (dk KX9_sign 23 rfl) (by decide) rfl ?_
  refine X_iload 1 rfl (dk KX9_sign 24 rfl) ?_
  refine X_if_le 61 (dk KX9_sign 25 rfl) (by decide) (fun hc => ?_) (fun hc => ?_)
  · have h := hO_t hc h
    refine X_iload_n 4 rfl (dk KX9_sign 29 rfl) ?_
    refine X_bipush (dk KX9_sign 30 rfl) 59 (by decide) ?_
    refine X_icmp_ne 73 (dk KX9_sign 31 rfl) (by decide) (fun hc => ?_) (fun hc => ?_)
    · have h := hO_f hc h
      refine X_iload_n 4 rfl (dk KX9_sign 35 rfl) ?_
      refine X_bipush (dk KX9_sign 36 rfl) 40 (by decide) ?_
      refine X_icmp_ne 86 (dk KX9_sign 37 rfl) (by decide) (fun hc => ?_) (fun hc => ?_)
      · have h := hO_f hc h
        refine X_iload_n 4 rfl (dk KX9_sign 41 rfl) ?_
        refine X_bipush (dk KX9_sign 42 rfl) 41 (by decide) ?_
        refine X_icmp_ne 99 (dk KX9_sign 43 rfl) (by decide) (fun hc => ?_) (fun hc => ?_)
        · have h := hO_f hc h
          refine X_iload_n 4 rfl (dk KX9_sign 47 rfl) ?_
          refine X_bipush (dk KX9_sign 48 rfl) 43 (by decide) ?_
          refine X_icmp_ne 112 (dk KX9_sign 49 rfl) (by decide) (fun hc => ?_) (fun hc => ?_)
          · have h := hO_f hc h
            refine X_iload_n 4 rfl (dk KX9_sign 53 rfl) ?_
            refine X_bipush (dk KX9_sign 54 rfl) 45 (by decide) ?_
            refine X_icmp_ne 125 (dk KX9_sign 55 rfl) (by decide) (fun hc => ?_) (fun hc => ?_)
            · have h := hO_f hc h
              refine X_iload_n 4 rfl (dk KX9_sign 59 rfl) ?_
              refine X_bipush (dk KX9_sign 60 rfl) 42 (by decide) ?_
              refine X_icmp_ne 138 (dk KX9_sign 61 rfl) (by decide) (fun hc => ?_) (fun hc => ?_)
              · have h := hO_f hc h
                refine X_iload_n 4 rfl (dk KX9_sign 65 rfl) ?_
                refine X_bipush (dk KX9_sign 66 rfl) 60 (by decide) ?_
                refine X_icmp_ne 148 (dk KX9_sign 67 rfl) (by decide) (fun hc => ?_) (fun hc => ?_)
                · have h := hO_f hc h
                  refine X_sub [(0, .ref 132), (1, .int x1), (4, .int s0), (5, .int 3)] [2, 3, 1, 0] rfl ?_
                  exact tX9_sign_148 x1 s0 3 σ h
                · have h := hO_t hc h
                  refine X_bipush (dk KX9_sign 68 rfl) 13 (by decide) ?_
                  refine X_istore [(5, .int 13), (4, .int s0), (0, .ref 132), (1, .int x1), (2, .int x2)] (dk KX9_sign 69 rfl) (by decide) rfl ?_
                  refine X_sub [(0, .ref 132), (1, .int x1), (4, .int s0), (5, .int 13)] [2, 3, 1, 0] rfl ?_
                  exact tX9_sign_148 x1 s0 13 σ h
              · have h := hO_t hc h
                refine X_bipush (dk KX9_sign 62 rfl) 10 (by decide) ?_
                refine X_istore [(5, .int 10), (4, .int s0), (0, .ref 132), (1, .int x1), (2, .int x2)] (dk KX9_sign 63 rfl) (by decide) rfl ?_
                refine X_goto 148 (dk KX9_sign 64 rfl) (by decide) ?_
                refine X_sub [(0, .ref 132), (1, .int x1), (4, .int s0), (5, .int 10)] [2, 3, 1, 0] rfl ?_
                exact tX9_sign_148 x1 s0 10 σ h
            · have h := hO_t hc h
              refine X_bipush (dk KX9_sign 56 rfl) 9 (by decide) ?_
              refine X_istore [(5, .int 9), (4, .int s0), (0, .ref 132), (1, .int x1), (2, .int x2)] (dk KX9_sign 57 rfl) (by decide) rfl ?_
              refine X_goto 148 (dk KX9_sign 58 rfl) (by decide) ?_
              refine X_sub [(0, .ref 132), (1, .int x1), (4, .int s0), (5, .int 9)] [2, 3, 1, 0] rfl ?_
              exact tX9_sign_148 x1 s0 9 σ h
          · have h := hO_t hc h
            refine X_bipush (dk KX9_sign 50 rfl) 8 (by decide) ?_
            refine X_istore [(5, .int 8), (4, .int s0), (0, .ref 132), (1, .int x1), (2, .int x2)] (dk KX9_sign 51 rfl) (by decide) rfl ?_
            refine X_goto 148 (dk KX9_sign 52 rfl) (by decide) ?_
            refine X_sub [(0, .ref 132), (1, .int x1), (4, .int s0), (5, .int 8)] [2, 3, 1, 0] rfl ?_
            exact tX9_sign_148 x1 s0 8 σ h
        · have h := hO_t hc h
          refine X_bipush (dk KX9_sign 44 rfl) 7 (by decide) ?_
          refine X_istore [(5, .int 7), (4, .int s0), (0, .ref 132), (1, .int x1), (2, .int x2)] (dk KX9_sign 45 rfl) (by decide) rfl ?_
          refine X_goto 148 (dk KX9_sign 46 rfl) (by decide) ?_
          refine X_sub [(0, .ref 132), (1, .int x1), (4, .int s0), (5, .int 7)] [2, 3, 1, 0] rfl ?_
          exact tX9_sign_148 x1 s0 7 σ h
      · have h := hO_t hc h
        refine X_bipush (dk KX9_sign 38 rfl) 6 (by decide) ?_
        refine X_istore [(5, .int 6), (4, .int s0), (0, .ref 132), (1, .int x1), (2, .int x2)] (dk KX9_sign 39 rfl) (by decide) rfl ?_
        refine X_goto 148 (dk KX9_sign 40 rfl) (by decide) ?_
        refine X_sub [(0, .ref 132), (1, .int x1), (4, .int s0), (5, .int 6)] [2, 3, 1, 0] rfl ?_
        exact tX9_sign_148 x1 s0 6 σ h
    · have h := hO_t hc h
      refine X_iconst (dk KX9_sign 32 rfl) 4 (by decide) ?_
      refine X_istore [(5, .int 4), (4, .int s0), (0, .ref 132), (1, .int x1), (2, .int x2)] (dk KX9_sign 33 rfl) (by decide) rfl ?_
      refine X_goto 148 (dk KX9_sign 34 rfl) (by decide) ?_
      refine X_sub [(0, .ref 132), (1, .int x1), (4, .int s0), (5, .int 4)] [2, 3, 1, 0] rfl ?_
      exact tX9_sign_148 x1 s0 4 σ h
  · have h := hO_f hc h
    refine X_iload 1 rfl (dk KX9_sign 26 rfl) ?_
    refine X_istore [(5, .int s0), (4, .int s0), (0, .ref 132), (1, .int x1), (2, .int x2)] (dk KX9_sign 27 rfl) (by decide) rfl ?_
    refine X_goto 148 (dk KX9_sign 28 rfl) (by decide) ?_
    refine X_sub [(0, .ref 132), (1, .int x1), (4, .int s0), (5, .int s0)] [2, 3, 1, 0] rfl ?_
    exact tX9_sign_148 x1 s0 s0 σ h
def fX9_sign (a1 : Int32) (a2 : Int32) (a3 : Int32) (σ : PS) : Option (Int32 × PS) := (if a3 = 61 then (if a2 = 61 then fX9_sign_44 a1 a2 11 σ else (if a2 = 33 then fX9_sign_44 a1 a2 12 σ else (if a2 = 60 then fX9_sign_44 a1 a2 14 σ else fX9_sign_44 a1 a2 0 σ))) else fX9_sign_44 a1 a2 0 σ)
set_option maxRecDepth 100000 in
set_option maxHeartbeats 4000000 in
theorem okX9_sign (a1 : Int32) (a2 : Int32) (a3 : Int32) (σ : PS) (P : Int32 × PS → Prop) (h : hO (fX9_sign a1 a2 a3 σ) P) : CON g mX9_sign 1 0 0 [.ref 132, .int a1, .int a2, .int a3] (HP σ) (pI P) := by
  refine CON.of (by decide) (by simp [lg_sl, Value.category]) ?_
  show X g _ _ _ _ _ 0 [(0, .ref 132), (1, .int a1), (2, .int a2), (3, .int a3)] [] _
  unfold fX9_sign at h
  refine X_iload_n 3 rfl (dk KX9_sign 0 rfl) ?_
  refine X_bipush (dk KX9_sign 1 rfl) 61 (by decide) ?_
  refine X_icmp_eq 10 (dk KX9_sign 2 rfl) (by decide) (fun hc => ?_) (fun hc => ?_)
  · have h := hO_t hc h
    refine X_iload_n 2 rfl (dk KX9_sign 5 rfl) ?_
    refine X_bipush (dk KX9_sign 6 rfl) 61 (by decide) ?_
    refine X_icmp_ne 21 (dk KX9_sign 7 rfl) (by decide) (fun hc => ?_) (fun hc => ?_)
    · have h := hO_f hc h
      refine X_iload_n 2 rfl (dk KX9_sign 10 rfl) ?_
      refine X_bipush (dk KX9_sign 11 rfl) 33 (by decide) ?_
      refine X_icmp_ne 32 (dk KX9_sign 12 rfl) (by decide) (fun hc => ?_) (fun hc => ?_)
      · have h := hO_f hc h
        refine X_iload_n 2 rfl (dk KX9_sign 15 rfl) ?_
        refine X_bipush (dk KX9_sign 16 rfl) 60 (by decide) ?_
        refine X_icmp_ne 43 (dk KX9_sign 17 rfl) (by decide) (fun hc => ?_) (fun hc => ?_)
        · have h := hO_f hc h
          refine X_iconst (dk KX9_sign 20 rfl) 0 (by decide) ?_
          refine X_sub [(0, .ref 132), (1, .int a1), (2, .int a2)] [0, 1, 2] rfl ?_
          exact tX9_sign_44 a1 a2 0 σ h
        · have h := hO_t hc h
          refine X_bipush (dk KX9_sign 18 rfl) 14 (by decide) ?_
          refine X_goto 44 (dk KX9_sign 19 rfl) (by decide) ?_
          refine X_sub [(0, .ref 132), (1, .int a1), (2, .int a2)] [0, 1, 2] rfl ?_
          exact tX9_sign_44 a1 a2 14 σ h
      · have h := hO_t hc h
        refine X_bipush (dk KX9_sign 13 rfl) 12 (by decide) ?_
        refine X_goto 44 (dk KX9_sign 14 rfl) (by decide) ?_
        refine X_sub [(0, .ref 132), (1, .int a1), (2, .int a2)] [0, 1, 2] rfl ?_
        exact tX9_sign_44 a1 a2 12 σ h
    · have h := hO_t hc h
      refine X_bipush (dk KX9_sign 8 rfl) 11 (by decide) ?_
      refine X_goto 44 (dk KX9_sign 9 rfl) (by decide) ?_
      refine X_sub [(0, .ref 132), (1, .int a1), (2, .int a2)] [0, 1, 2] rfl ?_
      exact tX9_sign_44 a1 a2 11 σ h
  · have h := hO_f hc h
    refine X_iconst (dk KX9_sign 3 rfl) 0 (by decide) ?_
    refine X_goto 44 (dk KX9_sign 4 rfl) (by decide) ?_
    refine X_sub [(0, .ref 132), (1, .int a1), (2, .int a2)] [0, 1, 2] rfl ?_
    exact tX9_sign_44 a1 a2 0 σ h

def fX9_cut_291 (r7 : Int32 → PS → Option (PS)) (x1 : Int32) (σ : PS) : Option (PS) := r7 x1 σ
set_option maxRecDepth 100000 in
set_option maxHeartbeats 4000000 in
theorem tX9_cut_291 {P : PS → Prop} {r7 : Int32 → PS → Option (PS)} (hr_7 : ∀ (x1 : Int32) (σ : PS), hO (r7 x1 σ) P → X g mX9_cut 2 0 0 (pV P) 7 [(0, .ref 132), (1, .int x1)] [] (HP σ)) (x1 : Int32) (σ : PS) (h : hO (fX9_cut_291 r7 x1 σ) P) : X g mX9_cut 2 0 0 (pV P) 291 [(0, .ref 132), (1, .int x1)] [] (HP σ) := by
  unfold fX9_cut_291 at h
  refine X_goto 7 (dk KX9_cut 164 rfl) (by decide) ?_
  exact hr_7 x1 σ h
def fX9_cut_67 (r7 : Int32 → PS → Option (PS)) (x1 : Int32) (σ : PS) : Option (PS) := fX9_cut_291 r7 (x1 + 1) σ
set_option maxRecDepth 100000 in
set_option maxHeartbeats 4000000 in
theorem tX9_cut_67 {P : PS → Prop} {r7 : Int32 → PS → Option (PS)} (hr_7 : ∀ (x1 : Int32) (σ : PS), hO (r7 x1 σ) P → X g mX9_cut 2 0 0 (pV P) 7 [(0, .ref 132), (1, .int x1)] [] (HP σ)) (x1 : Int32) (σ : PS) (h : hO (fX9_cut_67 r7 x1 σ) P) : X g mX9_cut 2 0 0 (pV P) 67 [(0, .ref 132), (1, .int x1)] [] (HP σ) := by
  unfold fX9_cut_67 at h
  refine X_iinc 1 1 [(1, .int (x1 + 1)), (0, .ref 132)] (dk KX9_cut 37 rfl) rfl (by decide) (by decide) rfl ?_
  refine X_goto 291 (dk KX9_cut 38 rfl) (by decide) ?_
  refine X_sub [(0, .ref 132), (1, .int (x1 + 1))] [1, 0] rfl ?_
  exact tX9_cut_291 hr_7 (x1 + 1) σ h
def fX9_cut_261 (r7 : Int32 → PS → Option (PS)) (x1 : Int32) (x3 : Int32) (x4 : Int32) (s1 : Int32) (σ : PS) : Option (PS) := (fX9_token s1 x1 x4 0 σ).bind (fun σ41 => fX9_cut_291 r7 (x1 + x3) σ41)
set_option maxRecDepth 100000 in
set_option maxHeartbeats 4000000 in
theorem tX9_cut_261 {P : PS → Prop} {r7 : Int32 → PS → Option (PS)} (hr_7 : ∀ (x1 : Int32) (σ : PS), hO (r7 x1 σ) P → X g mX9_cut 2 0 0 (pV P) 7 [(0, .ref 132), (1, .int x1)] [] (HP σ)) (x1 : Int32) (x3 : Int32) (x4 : Int32) (s1 : Int32) (σ : PS) (h : hO (fX9_cut_261 r7 x1 x3 x4 s1 σ) P) : X g mX9_cut 2 0 0 (pV P) 261 [(0, .ref 132), (1, .int x1), (3, .int x3), (4, .int x4)] [.int s1, .ref 132] (HP σ) := by
  unfold fX9_cut_261 at h
  refine X_iload_n 1 rfl (dk KX9_cut 143 rfl) ?_
  refine X_iload 3 rfl (dk KX9_cut 144 rfl) ?_
  refine X_lconst (dk KX9_cut 145 rfl) 0 (by decide) ?_
  refine Y_callVV wX9_229 (Nat.le_of_ble_eq_true rfl) rfl [.int s1, .int x1, .int x4, .long 0] [] rfl rfl (Nat.le_of_ble_eq_true rfl) (Nat.le_of_ble_eq_true rfl) (dk KX9_cut 146 rfl) (fun Pc h => okX9_token _ _ _ _ _ Pc h) h (fun σ41 e42 h => ?_)
  try dsimp only at h
  refine X_iload_n 1 rfl (dk KX9_cut 147 rfl) ?_
  refine X_iload_n 2 rfl (dk KX9_cut 148 rfl) ?_
  refine X_iadd (dk KX9_cut 149 rfl) ?_
  refine X_istore_n [(1, .int (x1 + x3)), (0, .ref 132), (3, .int x3), (4, .int x4)] (dk KX9_cut 150 rfl) (by decide) rfl ?_
  refine X_goto 291 (dk KX9_cut 151 rfl) (by decide) ?_
  refine X_sub [(0, .ref 132), (1, .int (x1 + x3))] [1, 0] rfl ?_
  exact tX9_cut_291 hr_7 (x1 + x3) σ41 h
def fX9_cut_244 (r7 : Int32 → PS → Option (PS)) (r208 : Int32 → Int32 → Int32 → PS → Option (PS)) (x1 : Int32) (x3 : Int32) (x4 : Int32) (σ : PS) : Option (PS) := r208 x1 (x3 + 1) x4 σ
set_option maxRecDepth 100000 in
set_option maxHeartbeats 4000000 in
theorem tX9_cut_244 {P : PS → Prop} {r7 : Int32 → PS → Option (PS)} (hr_7 : ∀ (x1 : Int32) (σ : PS), hO (r7 x1 σ) P → X g mX9_cut 2 0 0 (pV P) 7 [(0, .ref 132), (1, .int x1)] [] (HP σ)) {r208 : Int32 → Int32 → Int32 → PS → Option (PS)} (hr_208 : ∀ (x1 : Int32) (x3 : Int32) (x4 : Int32) (σ : PS), hO (r208 x1 x3 x4 σ) P → X g mX9_cut 2 0 0 (pV P) 208 [(0, .ref 132), (1, .int x1), (3, .int x3), (4, .int x4)] [] (HP σ)) (x1 : Int32) (x3 : Int32) (x4 : Int32) (σ : PS) (h : hO (fX9_cut_244 r7 r208 x1 x3 x4 σ) P) : X g mX9_cut 2 0 0 (pV P) 244 [(0, .ref 132), (1, .int x1), (3, .int x3), (4, .int x4)] [] (HP σ) := by
  unfold fX9_cut_244 at h
  refine X_iinc 2 1 [(3, .int (x3 + 1)), (0, .ref 132), (1, .int x1), (4, .int x4)] (dk KX9_cut 134 rfl) rfl (by decide) (by decide) rfl ?_
  refine X_goto 208 (dk KX9_cut 135 rfl) (by decide) ?_
  refine X_sub [(0, .ref 132), (1, .int x1), (3, .int (x3 + 1)), (4, .int x4)] [1, 2, 0, 3] rfl ?_
  exact hr_208 x1 (x3 + 1) x4 σ h
def fX9_cut_208 (r7 : Int32 → PS → Option (PS)) : Nat → Int32 → Int32 → Int32 → PS → Option (PS)
  | 0, _, _, _, _ => none
  | n + 1, x1, x3, x4, σ => (fX9_at (x1 + x3) σ).bind (fun qy31 => (fun (y31 : Int32) (σ32 : PS) => (fX9_isDigit y31 σ32).bind (fun qy34 => (fun (y34 : Int32) (σ35 : PS) => (if y34 = 0 then (if x3 ≤ 4 then fX9_cut_261 r7 x1 x3 x4 2 σ35 else fX9_cut_261 r7 x1 x3 x4 3 σ35) else (if 4 ≤ x3 then fX9_cut_244 r7 (fX9_cut_208 r7 n) x1 x3 x4 σ35 else (fX9_at (x1 + x3) σ35).bind (fun qy37 => (fun (y37 : Int32) (σ38 : PS) => fX9_cut_244 r7 (fX9_cut_208 r7 n) x1 x3 (((10 * x4) + y37) - 48) σ38) qy37.1 qy37.2)))) qy34.1 qy34.2)) qy31.1 qy31.2)
set_option maxRecDepth 100000 in
set_option maxHeartbeats 4000000 in
theorem tX9_cut_208 {P : PS → Prop} {r7 : Int32 → PS → Option (PS)} (hr_7 : ∀ (x1 : Int32) (σ : PS), hO (r7 x1 σ) P → X g mX9_cut 2 0 0 (pV P) 7 [(0, .ref 132), (1, .int x1)] [] (HP σ)) : ∀ (n : Nat) (x1 : Int32) (x3 : Int32) (x4 : Int32) (σ : PS), hO (fX9_cut_208 r7 n x1 x3 x4 σ) P → X g mX9_cut 2 0 0 (pV P) 208 [(0, .ref 132), (1, .int x1), (3, .int x3), (4, .int x4)] [] (HP σ) := by
  intro n
  induction n with
  | zero =>
    intro x1 x3 x4 σ h
    rw [fX9_cut_208] at h
    exact (hO_none h).elim
  | succ n ih =>
    intro x1 x3 x4 σ h
    rw [fX9_cut_208] at h
    refine X_aload_n 0 rfl (dk KX9_cut 112 rfl) ?_
    refine X_iload_n 1 rfl (dk KX9_cut 113 rfl) ?_
    refine X_iload_n 2 rfl (dk KX9_cut 114 rfl) ?_
    refine X_iadd (dk KX9_cut 115 rfl) ?_
    refine Y_callVI wX9_226 (Nat.le_of_ble_eq_true rfl) rfl [.int (x1 + x3)] [] rfl rfl (Nat.le_of_ble_eq_true rfl) (Nat.le_of_ble_eq_true rfl) (dk KX9_cut 116 rfl) (fun Pc h => okX9_at _ _ Pc h) h (fun y31 σ32 e33 h => ?_)
    try dsimp only at h
    refine Y_callSI wX9_237 [.int y31] [] rfl rfl (Nat.le_of_ble_eq_true rfl) (Nat.le_of_ble_eq_true rfl) (dk KX9_cut 117 rfl) (fun Pc h => okX9_isDigit _ _ Pc h) h (fun y34 σ35 e36 h => ?_)
    try dsimp only at h
    refine X_if_eq 250 (dk KX9_cut 118 rfl) (by decide) (fun hc => ?_) (fun hc => ?_)
    · have h := hO_t hc h
      refine X_aload_n 0 rfl (dk KX9_cut 136 rfl) ?_
      refine X_iload_n 2 rfl (dk KX9_cut 137 rfl) ?_
      refine X_iconst (dk KX9_cut 138 rfl) 4 (by decide) ?_
      refine X_icmp_le 260 (dk KX9_cut 139 rfl) (by decide) (fun hc => ?_) (fun hc => ?_)
      · have h := hO_t hc h
        refine X_iconst (dk KX9_cut 142 rfl) 2 (by decide) ?_
        exact tX9_cut_261 hr_7 x1 x3 x4 2 σ35 h
      · have h := hO_f hc h
        refine X_iconst (dk KX9_cut 140 rfl) 3 (by decide) ?_
        refine X_goto 261 (dk KX9_cut 141 rfl) (by decide) ?_
        exact tX9_cut_261 hr_7 x1 x3 x4 3 σ35 h
    · have h := hO_f hc h
      refine X_iload_n 2 rfl (dk KX9_cut 119 rfl) ?_
      refine X_iconst (dk KX9_cut 120 rfl) 4 (by decide) ?_
      refine X_icmp_ge 244 (dk KX9_cut 121 rfl) (by decide) (fun hc => ?_) (fun hc => ?_)
      · have h := hO_t hc h
        exact tX9_cut_244 hr_7 ih x1 x3 x4 σ35 h
      · have h := hO_f hc h
        refine X_bipush (dk KX9_cut 122 rfl) 10 (by decide) ?_
        refine X_iload 3 rfl (dk KX9_cut 123 rfl) ?_
        refine X_imul (dk KX9_cut 124 rfl) ?_
        refine X_aload_n 0 rfl (dk KX9_cut 125 rfl) ?_
        refine X_iload_n 1 rfl (dk KX9_cut 126 rfl) ?_
        refine X_iload_n 2 rfl (dk KX9_cut 127 rfl) ?_
        refine X_iadd (dk KX9_cut 128 rfl) ?_
        refine Y_callVI wX9_226 (Nat.le_of_ble_eq_true rfl) rfl [.int (x1 + x3)] [.int (10 * x4)] rfl rfl (Nat.le_of_ble_eq_true rfl) (Nat.le_of_ble_eq_true rfl) (dk KX9_cut 129 rfl) (fun Pc h => okX9_at _ _ Pc h) h (fun y37 σ38 e39 h => ?_)
        try dsimp only at h
        refine X_iadd (dk KX9_cut 130 rfl) ?_
        refine X_bipush (dk KX9_cut 131 rfl) 48 (by decide) ?_
        refine X_isub (dk KX9_cut 132 rfl) ?_
        refine X_istore [(4, .int (((10 * x4) + y37) - 48)), (0, .ref 132), (1, .int x1), (3, .int x3)] (dk KX9_cut 133 rfl) (by decide) rfl ?_
        refine X_sub [(0, .ref 132), (1, .int x1), (3, .int x3), (4, .int (((10 * x4) + y37) - 48))] [1, 2, 3, 0] rfl ?_
        exact tX9_cut_244 hr_7 ih x1 x3 (((10 * x4) + y37) - 48) σ38 h
def fX9_cut_179 (r7 : Int32 → PS → Option (PS)) (x1 : Int32) (x3 : Int32) (x4 : Int64) (x6 : Int32) (σ : PS) : Option (PS) := (fX9_token x6 x1 0 x4 σ).bind (fun σ45 => fX9_cut_291 r7 (x1 + x3) σ45)
set_option maxRecDepth 100000 in
set_option maxHeartbeats 4000000 in
theorem tX9_cut_179 {P : PS → Prop} {r7 : Int32 → PS → Option (PS)} (hr_7 : ∀ (x1 : Int32) (σ : PS), hO (r7 x1 σ) P → X g mX9_cut 2 0 0 (pV P) 7 [(0, .ref 132), (1, .int x1)] [] (HP σ)) (x1 : Int32) (x3 : Int32) (x4 : Int64) (x6 : Int32) (σ : PS) (h : hO (fX9_cut_179 r7 x1 x3 x4 x6 σ) P) : X g mX9_cut 2 0 0 (pV P) 179 [(0, .ref 132), (1, .int x1), (3, .int x3), (4, .long x4), (6, .int x6)] [] (HP σ) := by
  unfold fX9_cut_179 at h
  refine X_aload_n 0 rfl (dk KX9_cut 94 rfl) ?_
  refine X_iload 4 rfl (dk KX9_cut 95 rfl) ?_
  refine X_iload_n 1 rfl (dk KX9_cut 96 rfl) ?_
  refine X_iconst (dk KX9_cut 97 rfl) 0 (by decide) ?_
  refine X_lload 3 rfl (dk KX9_cut 98 rfl) ?_
  refine Y_callVV wX9_229 (Nat.le_of_ble_eq_true rfl) rfl [.int x6, .int x1, .int 0, .long x4] [] rfl rfl (Nat.le_of_ble_eq_true rfl) (Nat.le_of_ble_eq_true rfl) (dk KX9_cut 99 rfl) (fun Pc h => okX9_token _ _ _ _ _ Pc h) h (fun σ45 e46 h => ?_)
  try dsimp only at h
  refine X_iload_n 1 rfl (dk KX9_cut 100 rfl) ?_
  refine X_iload_n 2 rfl (dk KX9_cut 101 rfl) ?_
  refine X_iadd (dk KX9_cut 102 rfl) ?_
  refine X_istore_n [(1, .int (x1 + x3)), (0, .ref 132), (3, .int x3), (4, .long x4), (6, .int x6)] (dk KX9_cut 103 rfl) (by decide) rfl ?_
  refine X_goto 291 (dk KX9_cut 104 rfl) (by decide) ?_
  refine X_sub [(0, .ref 132), (1, .int (x1 + x3))] [1, 0] rfl ?_
  exact tX9_cut_291 hr_7 (x1 + x3) σ45 h
def fX9_cut_173 (r7 : Int32 → PS → Option (PS)) (r146 : Int32 → Int32 → Int64 → Int32 → Int32 → PS → Option (PS)) (x1 : Int32) (x3 : Int32) (x4 : Int64) (x6 : Int32) (x7 : Int32) (σ : PS) : Option (PS) := r146 x1 x3 x4 x6 (x7 + 1) σ
set_option maxRecDepth 100000 in
set_option maxHeartbeats 4000000 in
theorem tX9_cut_173 {P : PS → Prop} {r7 : Int32 → PS → Option (PS)} (hr_7 : ∀ (x1 : Int32) (σ : PS), hO (r7 x1 σ) P → X g mX9_cut 2 0 0 (pV P) 7 [(0, .ref 132), (1, .int x1)] [] (HP σ)) {r146 : Int32 → Int32 → Int64 → Int32 → Int32 → PS → Option (PS)} (hr_146 : ∀ (x1 : Int32) (x3 : Int32) (x4 : Int64) (x6 : Int32) (x7 : Int32) (σ : PS), hO (r146 x1 x3 x4 x6 x7 σ) P → X g mX9_cut 2 0 0 (pV P) 146 [(0, .ref 132), (1, .int x1), (3, .int x3), (4, .long x4), (6, .int x6), (7, .int x7)] [] (HP σ)) (x1 : Int32) (x3 : Int32) (x4 : Int64) (x6 : Int32) (x7 : Int32) (σ : PS) (h : hO (fX9_cut_173 r7 r146 x1 x3 x4 x6 x7 σ) P) : X g mX9_cut 2 0 0 (pV P) 173 [(0, .ref 132), (1, .int x1), (3, .int x3), (4, .long x4), (6, .int x6), (7, .int x7)] [] (HP σ) := by
  unfold fX9_cut_173 at h
  refine X_iinc 5 1 [(7, .int (x7 + 1)), (0, .ref 132), (1, .int x1), (3, .int x3), (4, .long x4), (6, .int x6)] (dk KX9_cut 92 rfl) rfl (by decide) (by decide) rfl ?_
  refine X_goto 146 (dk KX9_cut 93 rfl) (by decide) ?_
  refine X_sub [(0, .ref 132), (1, .int x1), (3, .int x3), (4, .long x4), (6, .int x6), (7, .int (x7 + 1))] [1, 2, 3, 4, 5, 0] rfl ?_
  exact hr_146 x1 x3 x4 x6 (x7 + 1) σ h
def fX9_cut_146 (r7 : Int32 → PS → Option (PS)) : Nat → Int32 → Int32 → Int64 → Int32 → Int32 → PS → Option (PS)
  | 0, _, _, _, _, _, _ => none
  | n + 1, x1, x3, x4, x6, x7, σ => (if 14 ≤ x7 then fX9_cut_179 r7 x1 x3 x4 x6 σ else gd (inb x7 14) ((if (lg_cmp (gl σ 139 (x7 : Int32).toNatClampNeg) x4) = 0 then fX9_cut_173 r7 (fX9_cut_146 r7 n) x1 x3 x4 (20 + x7) x7 σ else fX9_cut_173 r7 (fX9_cut_146 r7 n) x1 x3 x4 x6 x7 σ)))
set_option maxRecDepth 100000 in
set_option maxHeartbeats 4000000 in
theorem tX9_cut_146 {P : PS → Prop} {r7 : Int32 → PS → Option (PS)} (hr_7 : ∀ (x1 : Int32) (σ : PS), hO (r7 x1 σ) P → X g mX9_cut 2 0 0 (pV P) 7 [(0, .ref 132), (1, .int x1)] [] (HP σ)) : ∀ (n : Nat) (x1 : Int32) (x3 : Int32) (x4 : Int64) (x6 : Int32) (x7 : Int32) (σ : PS), hO (fX9_cut_146 r7 n x1 x3 x4 x6 x7 σ) P → X g mX9_cut 2 0 0 (pV P) 146 [(0, .ref 132), (1, .int x1), (3, .int x3), (4, .long x4), (6, .int x6), (7, .int x7)] [] (HP σ) := by
  intro n
  induction n with
  | zero =>
    intro x1 x3 x4 x6 x7 σ h
    rw [fX9_cut_146] at h
    exact (hO_none h).elim
  | succ n ih =>
    intro x1 x3 x4 x6 x7 σ h
    rw [fX9_cut_146] at h
    refine X_iload 5 rfl (dk KX9_cut 78 rfl) ?_
    refine X_bipush (dk KX9_cut 79 rfl) 14 (by decide) ?_
    refine X_icmp_ge 179 (dk KX9_cut 80 rfl) (by decide) (fun hc => ?_) (fun hc => ?_)
    · have h := hO_t hc h
      refine X_sub [(0, .ref 132), (1, .int x1), (3, .int x3), (4, .long x4), (6, .int x6)] [0, 1, 2, 3, 4] rfl ?_
      exact tX9_cut_179 hr_7 x1 x3 x4 x6 σ h
    · have h := hO_f hc h
      refine X_aload_n 0 rfl (dk KX9_cut 81 rfl) ?_
      refine Y_getR 139 fX9_34 (Nat.le_of_ble_eq_true rfl) rfl rfl (dk KX9_cut 82 rfl) ?_
      refine X_iload 5 rfl (dk KX9_cut 83 rfl) ?_
      refine Y_lald (Nat.le_of_ble_eq_true rfl) rfl (dk KX9_cut 84 rfl) h (fun hi43 h => ?_)
      refine X_lload 3 rfl (dk KX9_cut 85 rfl) ?_
      refine X_lcmp (dk KX9_cut 86 rfl) ?_
      refine X_if_ne 173 (dk KX9_cut 87 rfl) (by decide) (fun hc => ?_) (fun hc => ?_)
      · have h := hO_f hc h
        exact tX9_cut_173 hr_7 ih x1 x3 x4 x6 x7 σ h
      · have h := hO_t hc h
        refine X_bipush (dk KX9_cut 88 rfl) 20 (by decide) ?_
        refine X_iload 5 rfl (dk KX9_cut 89 rfl) ?_
        refine X_iadd (dk KX9_cut 90 rfl) ?_
        refine X_istore [(6, .int (20 + x7)), (0, .ref 132), (1, .int x1), (3, .int x3), (4, .long x4), (7, .int x7)] (dk KX9_cut 91 rfl) (by decide) rfl ?_
        refine X_sub [(0, .ref 132), (1, .int x1), (3, .int x3), (4, .long x4), (6, .int (20 + x7)), (7, .int x7)] [1, 2, 3, 4, 0, 5] rfl ?_
        exact tX9_cut_173 hr_7 ih x1 x3 x4 (20 + x7) x7 σ h
def fX9_cut_135 (r7 : Int32 → PS → Option (PS)) (x1 : Int32) (x3 : Int32) (x4 : Int64) (s0 : Int32) (σ : PS) : Option (PS) := (if 7 < x3 then fX9_cut_179 r7 x1 x3 x4 s0 σ else fX9_cut_146 r7 FU x1 x3 x4 s0 0 σ)
set_option maxRecDepth 100000 in
set_option maxHeartbeats 4000000 in
theorem tX9_cut_135 {P : PS → Prop} {r7 : Int32 → PS → Option (PS)} (hr_7 : ∀ (x1 : Int32) (σ : PS), hO (r7 x1 σ) P → X g mX9_cut 2 0 0 (pV P) 7 [(0, .ref 132), (1, .int x1)] [] (HP σ)) (x1 : Int32) (x3 : Int32) (x4 : Int64) (s0 : Int32) (σ : PS) (h : hO (fX9_cut_135 r7 x1 x3 x4 s0 σ) P) : X g mX9_cut 2 0 0 (pV P) 135 [(0, .ref 132), (1, .int x1), (3, .int x3), (4, .long x4)] [.int s0] (HP σ) := by
  unfold fX9_cut_135 at h
  refine X_istore [(6, .int s0), (0, .ref 132), (1, .int x1), (3, .int x3), (4, .long x4)] (dk KX9_cut 72 rfl) (by decide) rfl ?_
  refine X_iload_n 3 rfl (dk KX9_cut 73 rfl) ?_
  refine X_bipush (dk KX9_cut 74 rfl) 7 (by decide) ?_
  refine X_icmp_gt 179 (dk KX9_cut 75 rfl) (by decide) (fun hc => ?_) (fun hc => ?_)
  · have h := hO_t hc h
    refine X_sub [(0, .ref 132), (1, .int x1), (3, .int x3), (4, .long x4), (6, .int s0)] [1, 2, 3, 4, 0] rfl ?_
    exact tX9_cut_179 hr_7 x1 x3 x4 s0 σ h
  · have h := hO_f hc h
    refine X_iconst (dk KX9_cut 76 rfl) 0 (by decide) ?_
    refine X_istore [(7, .int 0), (6, .int s0), (0, .ref 132), (1, .int x1), (3, .int x3), (4, .long x4)] (dk KX9_cut 77 rfl) (by decide) rfl ?_
    refine X_sub [(0, .ref 132), (1, .int x1), (3, .int x3), (4, .long x4), (6, .int s0), (7, .int 0)] [2, 3, 4, 5, 1, 0] rfl ?_
    exact tX9_cut_146 hr_7 FU x1 x3 x4 s0 0 σ h
def fX9_cut_118 (r7 : Int32 → PS → Option (PS)) (r85 : Int32 → Int32 → Int64 → PS → Option (PS)) (x1 : Int32) (x3 : Int32) (x4 : Int64) (σ : PS) : Option (PS) := r85 x1 (x3 + 1) x4 σ
set_option maxRecDepth 100000 in
set_option maxHeartbeats 4000000 in
theorem tX9_cut_118 {P : PS → Prop} {r7 : Int32 → PS → Option (PS)} (hr_7 : ∀ (x1 : Int32) (σ : PS), hO (r7 x1 σ) P → X g mX9_cut 2 0 0 (pV P) 7 [(0, .ref 132), (1, .int x1)] [] (HP σ)) {r85 : Int32 → Int32 → Int64 → PS → Option (PS)} (hr_85 : ∀ (x1 : Int32) (x3 : Int32) (x4 : Int64) (σ : PS), hO (r85 x1 x3 x4 σ) P → X g mX9_cut 2 0 0 (pV P) 85 [(0, .ref 132), (1, .int x1), (3, .int x3), (4, .long x4)] [] (HP σ)) (x1 : Int32) (x3 : Int32) (x4 : Int64) (σ : PS) (h : hO (fX9_cut_118 r7 r85 x1 x3 x4 σ) P) : X g mX9_cut 2 0 0 (pV P) 118 [(0, .ref 132), (1, .int x1), (3, .int x3), (4, .long x4)] [] (HP σ) := by
  unfold fX9_cut_118 at h
  refine X_iinc 2 1 [(3, .int (x3 + 1)), (0, .ref 132), (1, .int x1), (4, .long x4)] (dk KX9_cut 64 rfl) rfl (by decide) (by decide) rfl ?_
  refine X_goto 85 (dk KX9_cut 65 rfl) (by decide) ?_
  refine X_sub [(0, .ref 132), (1, .int x1), (3, .int (x3 + 1)), (4, .long x4)] [1, 2, 0, 3] rfl ?_
  exact hr_85 x1 (x3 + 1) x4 σ h
def fX9_cut_85 (r7 : Int32 → PS → Option (PS)) : Nat → Int32 → Int32 → Int64 → PS → Option (PS)
  | 0, _, _, _, _ => none
  | n + 1, x1, x3, x4, σ => (fX9_at (x1 + x3) σ).bind (fun qy19 => (fun (y19 : Int32) (σ20 : PS) => (fX9_isLetter y19 σ20).bind (fun qy22 => (fun (y22 : Int32) (σ23 : PS) => (if y22 = 0 then (if x3 ≤ 8 then fX9_cut_135 r7 x1 x3 x4 1 σ23 else fX9_cut_135 r7 x1 x3 x4 3 σ23) else (if 8 ≤ x3 then fX9_cut_118 r7 (fX9_cut_85 r7 n) x1 x3 x4 σ23 else (fX9_at (x1 + x3) σ23).bind (fun qy25 => (fun (y25 : Int32) (σ26 : PS) => (fX9_more x4 y25 σ26).bind (fun qy28 => (fun (y28 : Int64) (σ29 : PS) => fX9_cut_118 r7 (fX9_cut_85 r7 n) x1 x3 y28 σ29) qy28.1 qy28.2)) qy25.1 qy25.2)))) qy22.1 qy22.2)) qy19.1 qy19.2)
set_option maxRecDepth 100000 in
set_option maxHeartbeats 4000000 in
theorem tX9_cut_85 {P : PS → Prop} {r7 : Int32 → PS → Option (PS)} (hr_7 : ∀ (x1 : Int32) (σ : PS), hO (r7 x1 σ) P → X g mX9_cut 2 0 0 (pV P) 7 [(0, .ref 132), (1, .int x1)] [] (HP σ)) : ∀ (n : Nat) (x1 : Int32) (x3 : Int32) (x4 : Int64) (σ : PS), hO (fX9_cut_85 r7 n x1 x3 x4 σ) P → X g mX9_cut 2 0 0 (pV P) 85 [(0, .ref 132), (1, .int x1), (3, .int x3), (4, .long x4)] [] (HP σ) := by
  intro n
  induction n with
  | zero =>
    intro x1 x3 x4 σ h
    rw [fX9_cut_85] at h
    exact (hO_none h).elim
  | succ n ih =>
    intro x1 x3 x4 σ h
    rw [fX9_cut_85] at h
    refine X_aload_n 0 rfl (dk KX9_cut 46 rfl) ?_
    refine X_iload_n 1 rfl (dk KX9_cut 47 rfl) ?_
    refine X_iload_n 2 rfl (dk KX9_cut 48 rfl) ?_
    refine X_iadd (dk KX9_cut 49 rfl) ?_
    refine Y_callVI wX9_226 (Nat.le_of_ble_eq_true rfl) rfl [.int (x1 + x3)] [] rfl rfl (Nat.le_of_ble_eq_true rfl) (Nat.le_of_ble_eq_true rfl) (dk KX9_cut 50 rfl) (fun Pc h => okX9_at _ _ Pc h) h (fun y19 σ20 e21 h => ?_)
    try dsimp only at h
    refine Y_callSI wX9_233 [.int y19] [] rfl rfl (Nat.le_of_ble_eq_true rfl) (Nat.le_of_ble_eq_true rfl) (dk KX9_cut 51 rfl) (fun Pc h => okX9_isLetter _ _ Pc h) h (fun y22 σ23 e24 h => ?_)
    try dsimp only at h
    refine X_if_eq 124 (dk KX9_cut 52 rfl) (by decide) (fun hc => ?_) (fun hc => ?_)
    · have h := hO_t hc h
      refine X_iload_n 2 rfl (dk KX9_cut 66 rfl) ?_
      refine X_bipush (dk KX9_cut 67 rfl) 8 (by decide) ?_
      refine X_icmp_le 134 (dk KX9_cut 68 rfl) (by decide) (fun hc => ?_) (fun hc => ?_)
      · have h := hO_t hc h
        refine X_iconst (dk KX9_cut 71 rfl) 1 (by decide) ?_
        exact tX9_cut_135 hr_7 x1 x3 x4 1 σ23 h
      · have h := hO_f hc h
        refine X_iconst (dk KX9_cut 69 rfl) 3 (by decide) ?_
        refine X_goto 135 (dk KX9_cut 70 rfl) (by decide) ?_
        exact tX9_cut_135 hr_7 x1 x3 x4 3 σ23 h
    · have h := hO_f hc h
      refine X_iload_n 2 rfl (dk KX9_cut 53 rfl) ?_
      refine X_bipush (dk KX9_cut 54 rfl) 8 (by decide) ?_
      refine X_icmp_ge 118 (dk KX9_cut 55 rfl) (by decide) (fun hc => ?_) (fun hc => ?_)
      · have h := hO_t hc h
        exact tX9_cut_118 hr_7 ih x1 x3 x4 σ23 h
      · have h := hO_f hc h
        refine X_lload 3 rfl (dk KX9_cut 56 rfl) ?_
        refine X_aload_n 0 rfl (dk KX9_cut 57 rfl) ?_
        refine X_iload_n 1 rfl (dk KX9_cut 58 rfl) ?_
        refine X_iload_n 2 rfl (dk KX9_cut 59 rfl) ?_
        refine X_iadd (dk KX9_cut 60 rfl) ?_
        refine Y_callVI wX9_226 (Nat.le_of_ble_eq_true rfl) rfl [.int (x1 + x3)] [.long x4] rfl rfl (Nat.le_of_ble_eq_true rfl) (Nat.le_of_ble_eq_true rfl) (dk KX9_cut 61 rfl) (fun Pc h => okX9_at _ _ Pc h) h (fun y25 σ26 e27 h => ?_)
        try dsimp only at h
        refine Y_callSL wX9_219 [.long x4, .int y25] [] rfl rfl (Nat.le_of_ble_eq_true rfl) (Nat.le_of_ble_eq_true rfl) (dk KX9_cut 62 rfl) (fun Pc h => okX9_more _ _ _ Pc h) h (fun y28 σ29 e30 h => ?_)
        try dsimp only at h
        refine X_lstore [(4, .long y28), (0, .ref 132), (1, .int x1), (3, .int x3)] (dk KX9_cut 63 rfl) (by decide) rfl ?_
        refine X_sub [(0, .ref 132), (1, .int x1), (3, .int x3), (4, .long y28)] [1, 2, 3, 0] rfl ?_
        exact tX9_cut_118 hr_7 ih x1 x3 y28 σ29 h
def fX9_cut_7 : Nat → Int32 → PS → Option (PS)
  | 0, _, _ => none
  | n + 1, x1, σ => (if 400 < (gi σ 132 10) then some σ else (fX9_at x1 σ).bind (fun qy1 => (fun (y1 : Int32) (σ2 : PS) => (if x1 < (gi σ2 132 4) then (if y1 = 9 then fX9_cut_67 (fX9_cut_7 n) x1 σ2 else (if y1 = 10 then fX9_cut_67 (fX9_cut_7 n) x1 σ2 else (if y1 = 13 then fX9_cut_67 (fX9_cut_7 n) x1 σ2 else (if y1 = 32 then fX9_cut_67 (fX9_cut_7 n) x1 σ2 else (fX9_isLetter y1 σ2).bind (fun qy4 => (fun (y4 : Int32) (σ5 : PS) => (if y4 = 0 then (fX9_isDigit y1 σ5).bind (fun qy7 => (fun (y7 : Int32) (σ8 : PS) => (if y7 = 0 then (fX9_at (x1 + 1) σ8).bind (fun qy10 => (fun (y10 : Int32) (σ11 : PS) => (fX9_sign x1 y1 y10 σ11).bind (fun qy13 => (fun (y13 : Int32) (σ14 : PS) => fX9_cut_291 (fX9_cut_7 n) (x1 + y13) σ14) qy13.1 qy13.2)) qy10.1 qy10.2) else fX9_cut_208 (fX9_cut_7 n) FU x1 0 0 σ8)) qy7.1 qy7.2) else fX9_cut_85 (fX9_cut_7 n) FU x1 0 0 σ5)) qy4.1 qy4.2))))) else (fX9_token 0 (gi σ2 132 4) 0 0 σ2).bind (fun σ17 => some σ17))) qy1.1 qy1.2))
set_option maxRecDepth 100000 in
set_option maxHeartbeats 4000000 in
theorem tX9_cut_7 {P : PS → Prop} : ∀ (n : Nat) (x1 : Int32) (σ : PS), hO (fX9_cut_7 n x1 σ) P → X g mX9_cut 2 0 0 (pV P) 7 [(0, .ref 132), (1, .int x1)] [] (HP σ) := by
  intro n
  induction n with
  | zero =>
    intro x1 σ h
    rw [fX9_cut_7] at h
    exact (hO_none h).elim
  | succ n ih =>
    intro x1 σ h
    rw [fX9_cut_7] at h
    refine X_aload_n 0 rfl (dk KX9_cut 5 rfl) ?_
    refine Y_getI fX9_223 (Nat.le_of_ble_eq_true rfl) rfl (dk KX9_cut 6 rfl) ?_
    refine X_sipush (dk KX9_cut 7 rfl) 400 (by decide) ?_
    refine X_icmp_gt 294 (dk KX9_cut 8 rfl) (by decide) (fun hc => ?_) (fun hc => ?_)
    · have h := hO_t hc h
      exact Y_vret (dk KX9_cut 165 rfl) rfl h
    · have h := hO_f hc h
      refine X_aload_n 0 rfl (dk KX9_cut 9 rfl) ?_
      refine X_iload_n 1 rfl (dk KX9_cut 10 rfl) ?_
      refine Y_callVI wX9_226 (Nat.le_of_ble_eq_true rfl) rfl [.int x1] [] rfl rfl (Nat.le_of_ble_eq_true rfl) (Nat.le_of_ble_eq_true rfl) (dk KX9_cut 11 rfl) (fun Pc h => okX9_at _ _ Pc h) h (fun y1 σ2 e3 h => ?_)
      try dsimp only at h
      refine X_istore_n [(2, .int y1), (0, .ref 132), (1, .int x1)] (dk KX9_cut 12 rfl) (by decide) rfl ?_
      refine X_iload_n 2 rfl (dk KX9_cut 13 rfl) ?_
      refine X_aload_n 1 rfl (dk KX9_cut 14 rfl) ?_
      refine Y_getI fX9_214 (Nat.le_of_ble_eq_true rfl) rfl (dk KX9_cut 15 rfl) ?_
      refine X_icmp_lt 43 (dk KX9_cut 16 rfl) (by decide) (fun hc => ?_) (fun hc => ?_)
      · have h := hO_t hc h
        refine X_iload_n 0 rfl (dk KX9_cut 25 rfl) ?_
        refine X_bipush (dk KX9_cut 26 rfl) 9 (by decide) ?_
        refine X_icmp_eq 67 (dk KX9_cut 27 rfl) (by decide) (fun hc => ?_) (fun hc => ?_)
        · have h := hO_t hc h
          refine X_sub [(0, .ref 132), (1, .int x1)] [1, 2] rfl ?_
          exact tX9_cut_67 ih x1 σ2 h
        · have h := hO_f hc h
          refine X_iload_n 0 rfl (dk KX9_cut 28 rfl) ?_
          refine X_bipush (dk KX9_cut 29 rfl) 10 (by decide) ?_
          refine X_icmp_eq 67 (dk KX9_cut 30 rfl) (by decide) (fun hc => ?_) (fun hc => ?_)
          · have h := hO_t hc h
            refine X_sub [(0, .ref 132), (1, .int x1)] [1, 2] rfl ?_
            exact tX9_cut_67 ih x1 σ2 h
          · have h := hO_f hc h
            refine X_iload_n 0 rfl (dk KX9_cut 31 rfl) ?_
            refine X_bipush (dk KX9_cut 32 rfl) 13 (by decide) ?_
            refine X_icmp_eq 67 (dk KX9_cut 33 rfl) (by decide) (fun hc => ?_) (fun hc => ?_)
            · have h := hO_t hc h
              refine X_sub [(0, .ref 132), (1, .int x1)] [1, 2] rfl ?_
              exact tX9_cut_67 ih x1 σ2 h
            · have h := hO_f hc h
              refine X_iload_n 0 rfl (dk KX9_cut 34 rfl) ?_
              refine X_bipush (dk KX9_cut 35 rfl) 32 (by decide) ?_
              refine X_icmp_ne 73 (dk KX9_cut 36 rfl) (by decide) (fun hc => ?_) (fun hc => ?_)
              · have h := hO_f hc h
                refine X_iload_n 0 rfl (dk KX9_cut 39 rfl) ?_
                refine Y_callSI wX9_233 [.int y1] [] rfl rfl (Nat.le_of_ble_eq_true rfl) (Nat.le_of_ble_eq_true rfl) (dk KX9_cut 40 rfl) (fun Pc h => okX9_isLetter _ _ Pc h) h (fun y4 σ5 e6 h => ?_)
                try dsimp only at h
                refine X_if_eq 196 (dk KX9_cut 41 rfl) (by decide) (fun hc => ?_) (fun hc => ?_)
                · have h := hO_t hc h
                  refine X_iload_n 0 rfl (dk KX9_cut 105 rfl) ?_
                  refine Y_callSI wX9_237 [.int y1] [] rfl rfl (Nat.le_of_ble_eq_true rfl) (Nat.le_of_ble_eq_true rfl) (dk KX9_cut 106 rfl) (fun Pc h => okX9_isDigit _ _ Pc h) h (fun y7 σ8 e9 h => ?_)
                  try dsimp only at h
                  refine X_if_eq 275 (dk KX9_cut 107 rfl) (by decide) (fun hc => ?_) (fun hc => ?_)
                  · have h := hO_t hc h
                    refine X_iload_n 2 rfl (dk KX9_cut 152 rfl) ?_
                    refine X_aload_n 1 rfl (dk KX9_cut 153 rfl) ?_
                    refine X_iload_n 2 rfl (dk KX9_cut 154 rfl) ?_
                    refine X_iload_n 0 rfl (dk KX9_cut 155 rfl) ?_
                    refine X_aload_n 1 rfl (dk KX9_cut 156 rfl) ?_
                    refine X_iload_n 2 rfl (dk KX9_cut 157 rfl) ?_
                    refine X_iconst (dk KX9_cut 158 rfl) 1 (by decide) ?_
                    refine X_iadd (dk KX9_cut 159 rfl) ?_
                    refine Y_callVI wX9_226 (Nat.le_of_ble_eq_true rfl) rfl [.int (x1 + 1)] [.int y1, .int x1, .ref 132, .int x1] rfl rfl (Nat.le_of_ble_eq_true rfl) (Nat.le_of_ble_eq_true rfl) (dk KX9_cut 160 rfl) (fun Pc h => okX9_at _ _ Pc h) h (fun y10 σ11 e12 h => ?_)
                    try dsimp only at h
                    refine Y_callVI wX9_240 (Nat.le_of_ble_eq_true rfl) rfl [.int x1, .int y1, .int y10] [.int x1] rfl rfl (Nat.le_of_ble_eq_true rfl) (Nat.le_of_ble_eq_true rfl) (dk KX9_cut 161 rfl) (fun Pc h => okX9_sign _ _ _ _ Pc h) h (fun y13 σ14 e15 h => ?_)
                    try dsimp only at h
                    refine X_iadd (dk KX9_cut 162 rfl) ?_
                    refine X_istore_n [(1, .int (x1 + y13)), (2, .int y1), (0, .ref 132)] (dk KX9_cut 163 rfl) (by decide) rfl ?_
                    refine X_sub [(0, .ref 132), (1, .int (x1 + y13))] [2, 0] rfl ?_
                    exact tX9_cut_291 ih (x1 + y13) σ14 h
                  · have h := hO_f hc h
                    refine X_iconst (dk KX9_cut 108 rfl) 0 (by decide) ?_
                    refine X_istore_n [(3, .int 0), (2, .int y1), (0, .ref 132), (1, .int x1)] (dk KX9_cut 109 rfl) (by decide) rfl ?_
                    refine X_iconst (dk KX9_cut 110 rfl) 0 (by decide) ?_
                    refine X_istore [(4, .int 0), (3, .int 0), (2, .int y1), (0, .ref 132), (1, .int x1)] (dk KX9_cut 111 rfl) (by decide) rfl ?_
                    refine X_sub [(0, .ref 132), (1, .int x1), (3, .int 0), (4, .int 0)] [3, 4, 1, 0] rfl ?_
                    exact tX9_cut_208 ih FU x1 0 0 σ8 h
                · have h := hO_f hc h
                  refine X_iconst (dk KX9_cut 42 rfl) 0 (by decide) ?_
                  refine X_istore_n [(3, .int 0), (2, .int y1), (0, .ref 132), (1, .int x1)] (dk KX9_cut 43 rfl) (by decide) rfl ?_
                  refine X_lconst (dk KX9_cut 44 rfl) 0 (by decide) ?_
                  refine X_lstore [(4, .long 0), (3, .int 0), (2, .int y1), (0, .ref 132), (1, .int x1)] (dk KX9_cut 45 rfl) (by decide) rfl ?_
                  refine X_sub [(0, .ref 132), (1, .int x1), (3, .int 0), (4, .long 0)] [3, 4, 1, 0] rfl ?_
                  exact tX9_cut_85 ih FU x1 0 0 σ5 h
              · have h := hO_t hc h
                refine X_sub [(0, .ref 132), (1, .int x1)] [1, 2] rfl ?_
                exact tX9_cut_67 ih x1 σ2 h
      · have h := hO_f hc h
        refine X_aload_n 1 rfl (dk KX9_cut 17 rfl) ?_
        refine X_iconst (dk KX9_cut 18 rfl) 0 (by decide) ?_
        refine X_aload_n 1 rfl (dk KX9_cut 19 rfl) ?_
        refine Y_getI fX9_214 (Nat.le_of_ble_eq_true rfl) rfl (dk KX9_cut 20 rfl) ?_
        refine X_iconst (dk KX9_cut 21 rfl) 0 (by decide) ?_
        refine X_lconst (dk KX9_cut 22 rfl) 0 (by decide) ?_
        refine Y_callVV wX9_229 (Nat.le_of_ble_eq_true rfl) rfl [.int 0, .int (gi σ2 132 4), .int 0, .long 0] [] rfl rfl (Nat.le_of_ble_eq_true rfl) (Nat.le_of_ble_eq_true rfl) (dk KX9_cut 23 rfl) (fun Pc h => okX9_token _ _ _ _ _ Pc h) h (fun σ17 e18 h => ?_)
        try dsimp only at h
        exact Y_vret (dk KX9_cut 24 rfl) rfl h
def fX9_cut  (σ : PS) : Option (PS) := fX9_cut_7 FU 0 (sI σ 132 10 0)
set_option maxRecDepth 100000 in
set_option maxHeartbeats 4000000 in
theorem okX9_cut  (σ : PS) (P : PS → Prop) (h : hO (fX9_cut  σ) P) : CON g mX9_cut 2 0 0 [.ref 132] (HP σ) (pV P) := by
  refine CON.of (by decide) (by simp [lg_sl, Value.category]) ?_
  show X g _ _ _ _ _ 0 [(0, .ref 132)] [] _
  unfold fX9_cut at h
  refine X_aload_n 0 rfl (dk KX9_cut 0 rfl) ?_
  refine X_iconst (dk KX9_cut 1 rfl) 0 (by decide) ?_
  refine Y_putI fX9_223 rfl (Nat.le_of_ble_eq_true rfl) rfl (dk KX9_cut 2 rfl) ?_
  refine X_iconst (dk KX9_cut 3 rfl) 0 (by decide) ?_
  refine X_istore_n [(1, .int 0), (0, .ref 132)] (dk KX9_cut 4 rfl) (by decide) rfl ?_
  refine X_sub [(0, .ref 132), (1, .int 0)] [1, 0] rfl ?_
  exact tX9_cut_7 FU 0 (sI σ 132 10 0) h

def fX9_is (a1 : Int32) (σ : PS) : Option (Int32 × PS) := (if (gi σ 132 13) = 0 then gd (inb (gi σ 132 11) 403) ((if (gi σ 135 ((gi σ 132 11) : Int32).toNatClampNeg) = a1 then some (1, σ) else some (0, σ))) else some (0, σ))
set_option maxRecDepth 100000 in
set_option maxHeartbeats 4000000 in
theorem okX9_is (a1 : Int32) (σ : PS) (P : Int32 × PS → Prop) (h : hO (fX9_is a1 σ) P) : CON g mX9_is 0 0 0 [.ref 132, .int a1] (HP σ) (pI P) := by
  refine CON.of (by decide) (by simp [lg_sl, Value.category]) ?_
  show X g _ _ _ _ _ 0 [(0, .ref 132), (1, .int a1)] [] _
  unfold fX9_is at h
  refine X_aload_n 0 rfl (dk KX9_is 0 rfl) ?_
  refine Y_getI fX9_244 (Nat.le_of_ble_eq_true rfl) rfl (dk KX9_is 1 rfl) ?_
  refine X_if_ne 24 (dk KX9_is 2 rfl) (by decide) (fun hc => ?_) (fun hc => ?_)
  · have h := hO_f hc h
    refine X_iconst (dk KX9_is 12 rfl) 0 (by decide) ?_
    exact Y_zret (dk KX9_is 13 rfl) rfl (by decide) h
  · have h := hO_t hc h
    refine X_aload_n 0 rfl (dk KX9_is 3 rfl) ?_
    refine Y_getR 135 fX9_20 (Nat.le_of_ble_eq_true rfl) rfl rfl (dk KX9_is 4 rfl) ?_
    refine X_aload_n 0 rfl (dk KX9_is 5 rfl) ?_
    refine Y_getI fX9_247 (Nat.le_of_ble_eq_true rfl) rfl (dk KX9_is 6 rfl) ?_
    refine Y_iald (Nat.le_of_ble_eq_true rfl) rfl (dk KX9_is 7 rfl) h (fun hi1 h => ?_)
    refine X_iload_n 1 rfl (dk KX9_is 8 rfl) ?_
    refine X_icmp_ne 24 (dk KX9_is 9 rfl) (by decide) (fun hc => ?_) (fun hc => ?_)
    · have h := hO_f hc h
      refine X_iconst (dk KX9_is 12 rfl) 0 (by decide) ?_
      exact Y_zret (dk KX9_is 13 rfl) rfl (by decide) h
    · have h := hO_t hc h
      refine X_iconst (dk KX9_is 10 rfl) 1 (by decide) ?_
      refine X_goto 25 (dk KX9_is 11 rfl) (by decide) ?_
      exact Y_zret (dk KX9_is 13 rfl) rfl (by decide) h

def fX9_fail (a1 : Int32) (σ : PS) : Option (PS) := (if (gi σ 132 13) ≤ 0 then gd (inb (gi (sI σ 132 13 a1) 132 11) 403) (some (sI (sI σ 132 13 a1) 132 14 (gi (sI σ 132 13 a1) 136 ((gi (sI σ 132 13 a1) 132 11) : Int32).toNatClampNeg))) else some σ)
set_option maxRecDepth 100000 in
set_option maxHeartbeats 4000000 in
theorem okX9_fail (a1 : Int32) (σ : PS) (P : PS → Prop) (h : hO (fX9_fail a1 σ) P) : CON g mX9_fail 0 0 0 [.ref 132, .int a1] (HP σ) (pV P) := by
  refine CON.of (by decide) (by simp [lg_sl, Value.category]) ?_
  show X g _ _ _ _ _ 0 [(0, .ref 132), (1, .int a1)] [] _
  unfold fX9_fail at h
  refine X_aload_n 0 rfl (dk KX9_fail 0 rfl) ?_
  refine Y_getI fX9_244 (Nat.le_of_ble_eq_true rfl) rfl (dk KX9_fail 1 rfl) ?_
  refine X_if_le 8 (dk KX9_fail 2 rfl) (by decide) (fun hc => ?_) (fun hc => ?_)
  · have h := hO_t hc h
    refine X_aload_n 0 rfl (dk KX9_fail 4 rfl) ?_
    refine X_iload_n 1 rfl (dk KX9_fail 5 rfl) ?_
    refine Y_putI fX9_244 rfl (Nat.le_of_ble_eq_true rfl) rfl (dk KX9_fail 6 rfl) ?_
    refine X_aload_n 0 rfl (dk KX9_fail 7 rfl) ?_
    refine X_aload_n 0 rfl (dk KX9_fail 8 rfl) ?_
    refine Y_getR 136 fX9_24 (Nat.le_of_ble_eq_true rfl) rfl rfl (dk KX9_fail 9 rfl) ?_
    refine X_aload_n 0 rfl (dk KX9_fail 10 rfl) ?_
    refine Y_getI fX9_247 (Nat.le_of_ble_eq_true rfl) rfl (dk KX9_fail 11 rfl) ?_
    refine Y_iald (Nat.le_of_ble_eq_true rfl) rfl (dk KX9_fail 12 rfl) h (fun hi1 h => ?_)
    refine Y_putI fX9_250 rfl (Nat.le_of_ble_eq_true rfl) rfl (dk KX9_fail 13 rfl) ?_
    exact Y_vret (dk KX9_fail 14 rfl) rfl h
  · have h := hO_f hc h
    exact Y_vret (dk KX9_fail 3 rfl) rfl h

def fX9_wrong_46 (x1 : Int32) (x3 : Int32) (σ : PS) : Option (PS) := some (sI (sI σ 132 15 x1) 132 16 x3)
set_option maxRecDepth 100000 in
set_option maxHeartbeats 4000000 in
theorem tX9_wrong_46 {P : PS → Prop} (x1 : Int32) (x3 : Int32) (σ : PS) (h : hO (fX9_wrong_46 x1 x3 σ) P) : X g mX9_wrong 0 0 0 (pV P) 46 [(0, .ref 132), (1, .int x1), (3, .int x3)] [] (HP σ) := by
  unfold fX9_wrong_46 at h
  refine X_aload_n 0 rfl (dk KX9_wrong 24 rfl) ?_
  refine X_iload_n 1 rfl (dk KX9_wrong 25 rfl) ?_
  refine Y_putI fX9_253 rfl (Nat.le_of_ble_eq_true rfl) rfl (dk KX9_wrong 26 rfl) ?_
  refine X_aload_n 0 rfl (dk KX9_wrong 27 rfl) ?_
  refine X_iload_n 2 rfl (dk KX9_wrong 28 rfl) ?_
  refine Y_putI fX9_256 rfl (Nat.le_of_ble_eq_true rfl) rfl (dk KX9_wrong 29 rfl) ?_
  exact Y_vret (dk KX9_wrong 30 rfl) rfl h
def fX9_wrong (a1 : Int32) (a2 : Int32) (σ : PS) : Option (PS) := gd (inb a2 403) ((if 0 < (gi σ 132 13) then some σ else (if (gi σ 132 15) = 0 then fX9_wrong_46 a1 (gi σ 136 (a2 : Int32).toNatClampNeg) σ else (if (gi σ 132 16) < (gi σ 136 (a2 : Int32).toNatClampNeg) then some σ else (if (gi σ 136 (a2 : Int32).toNatClampNeg) = (gi σ 132 16) then (if a1 < (gi σ 132 15) then fX9_wrong_46 a1 (gi σ 136 (a2 : Int32).toNatClampNeg) σ else some σ) else fX9_wrong_46 a1 (gi σ 136 (a2 : Int32).toNatClampNeg) σ)))))
set_option maxRecDepth 100000 in
set_option maxHeartbeats 4000000 in
theorem okX9_wrong (a1 : Int32) (a2 : Int32) (σ : PS) (P : PS → Prop) (h : hO (fX9_wrong a1 a2 σ) P) : CON g mX9_wrong 0 0 0 [.ref 132, .int a1, .int a2] (HP σ) (pV P) := by
  refine CON.of (by decide) (by simp [lg_sl, Value.category]) ?_
  show X g _ _ _ _ _ 0 [(0, .ref 132), (1, .int a1), (2, .int a2)] [] _
  unfold fX9_wrong at h
  refine X_aload_n 0 rfl (dk KX9_wrong 0 rfl) ?_
  refine Y_getR 136 fX9_24 (Nat.le_of_ble_eq_true rfl) rfl rfl (dk KX9_wrong 1 rfl) ?_
  refine X_iload_n 2 rfl (dk KX9_wrong 2 rfl) ?_
  refine Y_iald (Nat.le_of_ble_eq_true rfl) rfl (dk KX9_wrong 3 rfl) h (fun hi1 h => ?_)
  refine X_istore_n [(3, .int (gi σ 136 (a2 : Int32).toNatClampNeg)), (0, .ref 132), (1, .int a1), (2, .int a2)] (dk KX9_wrong 4 rfl) (by decide) rfl ?_
  refine X_aload_n 1 rfl (dk KX9_wrong 5 rfl) ?_
  refine Y_getI fX9_244 (Nat.le_of_ble_eq_true rfl) rfl (dk KX9_wrong 6 rfl) ?_
  refine X_if_gt 45 (dk KX9_wrong 7 rfl) (by decide) (fun hc => ?_) (fun hc => ?_)
  · have h := hO_t hc h
    exact Y_vret (dk KX9_wrong 23 rfl) rfl h
  · have h := hO_f hc h
    refine X_aload_n 1 rfl (dk KX9_wrong 8 rfl) ?_
    refine Y_getI fX9_253 (Nat.le_of_ble_eq_true rfl) rfl (dk KX9_wrong 9 rfl) ?_
    refine X_if_eq 46 (dk KX9_wrong 10 rfl) (by decide) (fun hc => ?_) (fun hc => ?_)
    · have h := hO_t hc h
      refine X_sub [(0, .ref 132), (1, .int a1), (3, .int (gi σ 136 (a2 : Int32).toNatClampNeg))] [1, 2, 0] rfl ?_
      exact tX9_wrong_46 a1 (gi σ 136 (a2 : Int32).toNatClampNeg) σ h
    · have h := hO_f hc h
      refine X_iload_n 0 rfl (dk KX9_wrong 11 rfl) ?_
      refine X_aload_n 1 rfl (dk KX9_wrong 12 rfl) ?_
      refine Y_getI fX9_256 (Nat.le_of_ble_eq_true rfl) rfl (dk KX9_wrong 13 rfl) ?_
      refine X_icmp_gt 45 (dk KX9_wrong 14 rfl) (by decide) (fun hc => ?_) (fun hc => ?_)
      · have h := hO_t hc h
        exact Y_vret (dk KX9_wrong 23 rfl) rfl h
      · have h := hO_f hc h
        refine X_iload_n 0 rfl (dk KX9_wrong 15 rfl) ?_
        refine X_aload_n 1 rfl (dk KX9_wrong 16 rfl) ?_
        refine Y_getI fX9_256 (Nat.le_of_ble_eq_true rfl) rfl (dk KX9_wrong 17 rfl) ?_
        refine X_icmp_ne 46 (dk KX9_wrong 18 rfl) (by decide) (fun hc => ?_) (fun hc => ?_)
        · have h := hO_f hc h
          refine X_sub [(0, .ref 132), (1, .int a1), (3, .int (gi σ 136 (a2 : Int32).toNatClampNeg))] [1, 2, 0] rfl ?_
          exact tX9_wrong_46 a1 (gi σ 136 (a2 : Int32).toNatClampNeg) σ h
        · have h := hO_t hc h
          refine X_iload_n 2 rfl (dk KX9_wrong 19 rfl) ?_
          refine X_aload_n 1 rfl (dk KX9_wrong 20 rfl) ?_
          refine Y_getI fX9_253 (Nat.le_of_ble_eq_true rfl) rfl (dk KX9_wrong 21 rfl) ?_
          refine X_icmp_lt 46 (dk KX9_wrong 22 rfl) (by decide) (fun hc => ?_) (fun hc => ?_)
          · have h := hO_t hc h
            refine X_sub [(0, .ref 132), (1, .int a1), (3, .int (gi σ 136 (a2 : Int32).toNatClampNeg))] [1, 2, 0] rfl ?_
            exact tX9_wrong_46 a1 (gi σ 136 (a2 : Int32).toNatClampNeg) σ h
          · have h := hO_f hc h
            exact Y_vret (dk KX9_wrong 23 rfl) rfl h

def fX9_next  (σ : PS) : Option (PS) := (if (gi σ 132 11) = 400 then (fX9_fail 2 σ).bind (fun σ2 => some σ2) else some (sI σ 132 11 ((gi σ 132 11) + 1)))
set_option maxRecDepth 100000 in
set_option maxHeartbeats 4000000 in
theorem okX9_next  (σ : PS) (P : PS → Prop) (h : hO (fX9_next  σ) P) : CON g mX9_next 1 0 0 [.ref 132] (HP σ) (pV P) := by
  refine CON.of (by decide) (by simp [lg_sl, Value.category]) ?_
  show X g _ _ _ _ _ 0 [(0, .ref 132)] [] _
  unfold fX9_next at h
  refine X_aload_n 0 rfl (dk KX9_next 0 rfl) ?_
  refine Y_getI fX9_247 (Nat.le_of_ble_eq_true rfl) rfl (dk KX9_next 1 rfl) ?_
  refine X_sipush (dk KX9_next 2 rfl) 400 (by decide) ?_
  refine X_icmp_ne 18 (dk KX9_next 3 rfl) (by decide) (fun hc => ?_) (fun hc => ?_)
  · have h := hO_f hc h
    refine X_aload_n 0 rfl (dk KX9_next 8 rfl) ?_
    refine X_dup (dk KX9_next 9 rfl) rfl ?_
    refine Y_getI fX9_247 (Nat.le_of_ble_eq_true rfl) rfl (dk KX9_next 10 rfl) ?_
    refine X_iconst (dk KX9_next 11 rfl) 1 (by decide) ?_
    refine X_iadd (dk KX9_next 12 rfl) ?_
    refine Y_putI fX9_247 rfl (Nat.le_of_ble_eq_true rfl) rfl (dk KX9_next 13 rfl) ?_
    exact Y_vret (dk KX9_next 14 rfl) rfl h
  · have h := hO_t hc h
    refine X_aload_n 0 rfl (dk KX9_next 4 rfl) ?_
    refine X_iconst (dk KX9_next 5 rfl) 2 (by decide) ?_
    refine Y_callVV wX9_259 (Nat.le_of_ble_eq_true rfl) rfl [.int 2] [] rfl rfl (Nat.le_of_ble_eq_true rfl) (Nat.le_of_ble_eq_true rfl) (dk KX9_next 6 rfl) (fun Pc h => okX9_fail _ _ Pc h) h (fun σ2 e3 h => ?_)
    try dsimp only at h
    refine X_goto 28 (dk KX9_next 7 rfl) (by decide) ?_
    exact Y_vret (dk KX9_next 14 rfl) rfl h

def fX9_must (a1 : Int32) (σ : PS) : Option (PS) := (fX9_is a1 σ).bind (fun qy1 => (fun (y1 : Int32) (σ2 : PS) => (if y1 = 0 then (fX9_fail 1 σ2).bind (fun σ5 => some σ5) else (fX9_next σ2).bind (fun σ8 => some σ8))) qy1.1 qy1.2)
set_option maxRecDepth 100000 in
set_option maxHeartbeats 4000000 in
theorem okX9_must (a1 : Int32) (σ : PS) (P : PS → Prop) (h : hO (fX9_must a1 σ) P) : CON g mX9_must 2 0 0 [.ref 132, .int a1] (HP σ) (pV P) := by
  refine CON.of (by decide) (by simp [lg_sl, Value.category]) ?_
  show X g _ _ _ _ _ 0 [(0, .ref 132), (1, .int a1)] [] _
  unfold fX9_must at h
  refine X_aload_n 0 rfl (dk KX9_must 0 rfl) ?_
  refine X_iload_n 1 rfl (dk KX9_must 1 rfl) ?_
  refine Y_callVI wX9_262 (Nat.le_of_ble_eq_true rfl) rfl [.int a1] [] rfl rfl (Nat.le_of_ble_eq_true rfl) (Nat.le_of_ble_eq_true rfl) (dk KX9_must 2 rfl) (fun Pc h => okX9_is _ _ Pc h) h (fun y1 σ2 e3 h => ?_)
  try dsimp only at h
  refine X_if_eq 15 (dk KX9_must 3 rfl) (by decide) (fun hc => ?_) (fun hc => ?_)
  · have h := hO_t hc h
    refine X_aload_n 0 rfl (dk KX9_must 7 rfl) ?_
    refine X_iconst (dk KX9_must 8 rfl) 1 (by decide) ?_
    refine Y_callVV wX9_259 (Nat.le_of_ble_eq_true rfl) rfl [.int 1] [] rfl rfl (Nat.le_of_ble_eq_true rfl) (Nat.le_of_ble_eq_true rfl) (dk KX9_must 9 rfl) (fun Pc h => okX9_fail _ _ Pc h) h (fun σ5 e6 h => ?_)
    try dsimp only at h
    exact Y_vret (dk KX9_must 10 rfl) rfl h
  · have h := hO_f hc h
    refine X_aload_n 0 rfl (dk KX9_must 4 rfl) ?_
    refine Y_callVV wX9_265 (Nat.le_of_ble_eq_true rfl) rfl [] [] rfl rfl (Nat.le_of_ble_eq_true rfl) (Nat.le_of_ble_eq_true rfl) (dk KX9_must 5 rfl) (fun Pc h => okX9_next _ Pc h) h (fun σ8 e9 h => ?_)
    try dsimp only at h
    refine X_goto 20 (dk KX9_must 6 rfl) (by decide) ?_
    exact Y_vret (dk KX9_must 10 rfl) rfl h

def fX9_emit (a1 : Int32) (a2 : Int32) (σ : PS) : Option (PS) := gd (inb (gi σ 132 33) 1000) (gd (inb (gi (sI σ 153 ((gi σ 132 33) : Int32).toNatClampNeg a1) 132 33) 1000) (some (sI (sI (sI σ 153 ((gi σ 132 33) : Int32).toNatClampNeg a1) 154 ((gi (sI σ 153 ((gi σ 132 33) : Int32).toNatClampNeg a1) 132 33) : Int32).toNatClampNeg a2) 132 33 ((gi (sI (sI σ 153 ((gi σ 132 33) : Int32).toNatClampNeg a1) 154 ((gi (sI σ 153 ((gi σ 132 33) : Int32).toNatClampNeg a1) 132 33) : Int32).toNatClampNeg a2) 132 33) + 1))))
set_option maxRecDepth 100000 in
set_option maxHeartbeats 4000000 in
theorem okX9_emit (a1 : Int32) (a2 : Int32) (σ : PS) (P : PS → Prop) (h : hO (fX9_emit a1 a2 σ) P) : CON g mX9_emit 0 0 0 [.ref 132, .int a1, .int a2] (HP σ) (pV P) := by
  refine CON.of (by decide) (by simp [lg_sl, Value.category]) ?_
  show X g _ _ _ _ _ 0 [(0, .ref 132), (1, .int a1), (2, .int a2)] [] _
  unfold fX9_emit at h
  refine X_aload_n 0 rfl (dk KX9_emit 0 rfl) ?_
  refine Y_getR 153 fX9_80 (Nat.le_of_ble_eq_true rfl) rfl rfl (dk KX9_emit 1 rfl) ?_
  refine X_aload_n 0 rfl (dk KX9_emit 2 rfl) ?_
  refine Y_getI fX9_280 (Nat.le_of_ble_eq_true rfl) rfl (dk KX9_emit 3 rfl) ?_
  refine X_iload_n 1 rfl (dk KX9_emit 4 rfl) ?_
  refine Y_iast (Nat.le_of_ble_eq_true rfl) rfl (dk KX9_emit 5 rfl) h (fun hi1 h => ?_)
  refine X_aload_n 0 rfl (dk KX9_emit 6 rfl) ?_
  refine Y_getR 154 fX9_83 (Nat.le_of_ble_eq_true rfl) rfl rfl (dk KX9_emit 7 rfl) ?_
  refine X_aload_n 0 rfl (dk KX9_emit 8 rfl) ?_
  refine Y_getI fX9_280 (Nat.le_of_ble_eq_true rfl) rfl (dk KX9_emit 9 rfl) ?_
  refine X_iload_n 2 rfl (dk KX9_emit 10 rfl) ?_
  refine Y_iast (Nat.le_of_ble_eq_true rfl) rfl (dk KX9_emit 11 rfl) h (fun hi2 h => ?_)
  refine X_aload_n 0 rfl (dk KX9_emit 12 rfl) ?_
  refine X_dup (dk KX9_emit 13 rfl) rfl ?_
  refine Y_getI fX9_280 (Nat.le_of_ble_eq_true rfl) rfl (dk KX9_emit 14 rfl) ?_
  refine X_iconst (dk KX9_emit 15 rfl) 1 (by decide) ?_
  refine X_iadd (dk KX9_emit 16 rfl) ?_
  refine Y_putI fX9_280 rfl (Nat.le_of_ble_eq_true rfl) rfl (dk KX9_emit 17 rfl) ?_
  exact Y_vret (dk KX9_emit 18 rfl) rfl h

def fX9_comesOut_85 (r0 : Int32 → PS → Option (PS)) (x1 : Int32) (s1 : Int32) (σ : PS) : Option (PS) := (fX9_emit s1 0 σ).bind (fun σ5 => r0 x1 σ5)
set_option maxRecDepth 100000 in
set_option maxHeartbeats 4000000 in
theorem tX9_comesOut_85 {P : PS → Prop} {r0 : Int32 → PS → Option (PS)} (hr_0 : ∀ (x1 : Int32) (σ : PS), hO (r0 x1 σ) P → X g mX9_comesOut 1 0 0 (pV P) 0 [(0, .ref 132), (1, .int x1)] [] (HP σ)) (x1 : Int32) (s1 : Int32) (σ : PS) (h : hO (fX9_comesOut_85 r0 x1 s1 σ) P) : X g mX9_comesOut 1 0 0 (pV P) 85 [(0, .ref 132), (1, .int x1)] [.int s1, .ref 132] (HP σ) := by
  unfold fX9_comesOut_85 at h
  refine X_iconst (dk KX9_comesOut 47 rfl) 0 (by decide) ?_
  refine Y_callVV wX9_303 (Nat.le_of_ble_eq_true rfl) rfl [.int s1, .int 0] [] rfl rfl (Nat.le_of_ble_eq_true rfl) (Nat.le_of_ble_eq_true rfl) (dk KX9_comesOut 48 rfl) (fun Pc h => okX9_emit _ _ _ Pc h) h (fun σ5 e6 h => ?_)
  try dsimp only at h
  refine X_goto 0 (dk KX9_comesOut 49 rfl) (by decide) ?_
  exact hr_0 x1 σ5 h
def fX9_comesOut_43 (r0 : Int32 → PS → Option (PS)) (x1 : Int32) (σ : PS) : Option (PS) := gd (inb (gi (sI σ 132 37 ((gi σ 132 37) - 1)) 132 37) 48) ((if (gi (sI σ 132 37 ((gi σ 132 37) - 1)) 155 ((gi (sI σ 132 37 ((gi σ 132 37) - 1)) 132 37) : Int32).toNatClampNeg) = 8 then fX9_comesOut_85 r0 x1 2 (sI σ 132 37 ((gi σ 132 37) - 1)) else (if (gi (sI σ 132 37 ((gi σ 132 37) - 1)) 155 ((gi (sI σ 132 37 ((gi σ 132 37) - 1)) 132 37) : Int32).toNatClampNeg) = 9 then fX9_comesOut_85 r0 x1 3 (sI σ 132 37 ((gi σ 132 37) - 1)) else fX9_comesOut_85 r0 x1 4 (sI σ 132 37 ((gi σ 132 37) - 1)))))
set_option maxRecDepth 100000 in
set_option maxHeartbeats 4000000 in
theorem tX9_comesOut_43 {P : PS → Prop} {r0 : Int32 → PS → Option (PS)} (hr_0 : ∀ (x1 : Int32) (σ : PS), hO (r0 x1 σ) P → X g mX9_comesOut 1 0 0 (pV P) 0 [(0, .ref 132), (1, .int x1)] [] (HP σ)) (x1 : Int32) (σ : PS) (h : hO (fX9_comesOut_43 r0 x1 σ) P) : X g mX9_comesOut 1 0 0 (pV P) 43 [(0, .ref 132), (1, .int x1)] [] (HP σ) := by
  unfold fX9_comesOut_43 at h
  refine X_aload_n 0 rfl (dk KX9_comesOut 23 rfl) ?_
  refine X_dup (dk KX9_comesOut 24 rfl) rfl ?_
  refine Y_getI fX9_300 (Nat.le_of_ble_eq_true rfl) rfl (dk KX9_comesOut 25 rfl) ?_
  refine X_iconst (dk KX9_comesOut 26 rfl) 1 (by decide) ?_
  refine X_isub (dk KX9_comesOut 27 rfl) ?_
  refine Y_putI fX9_300 rfl (Nat.le_of_ble_eq_true rfl) rfl (dk KX9_comesOut 28 rfl) ?_
  refine X_aload_n 0 rfl (dk KX9_comesOut 29 rfl) ?_
  refine Y_getR 155 fX9_86 (Nat.le_of_ble_eq_true rfl) rfl rfl (dk KX9_comesOut 30 rfl) ?_
  refine X_aload_n 0 rfl (dk KX9_comesOut 31 rfl) ?_
  refine Y_getI fX9_300 (Nat.le_of_ble_eq_true rfl) rfl (dk KX9_comesOut 32 rfl) ?_
  refine Y_iald (Nat.le_of_ble_eq_true rfl) rfl (dk KX9_comesOut 33 rfl) h (fun hi3 h => ?_)
  refine X_istore_n [(2, .int (gi (sI σ 132 37 ((gi σ 132 37) - 1)) 155 ((gi (sI σ 132 37 ((gi σ 132 37) - 1)) 132 37) : Int32).toNatClampNeg)), (0, .ref 132), (1, .int x1)] (dk KX9_comesOut 34 rfl) (by decide) rfl ?_
  refine X_aload_n 1 rfl (dk KX9_comesOut 35 rfl) ?_
  refine X_iload_n 0 rfl (dk KX9_comesOut 36 rfl) ?_
  refine X_bipush (dk KX9_comesOut 37 rfl) 8 (by decide) ?_
  refine X_icmp_ne 74 (dk KX9_comesOut 38 rfl) (by decide) (fun hc => ?_) (fun hc => ?_)
  · have h := hO_f hc h
    refine X_iload_n 0 rfl (dk KX9_comesOut 41 rfl) ?_
    refine X_bipush (dk KX9_comesOut 42 rfl) 9 (by decide) ?_
    refine X_icmp_ne 84 (dk KX9_comesOut 43 rfl) (by decide) (fun hc => ?_) (fun hc => ?_)
    · have h := hO_f hc h
      refine X_iconst (dk KX9_comesOut 46 rfl) 4 (by decide) ?_
      refine X_sub [(0, .ref 132), (1, .int x1)] [1, 2] rfl ?_
      exact tX9_comesOut_85 hr_0 x1 4 (sI σ 132 37 ((gi σ 132 37) - 1)) h
    · have h := hO_t hc h
      refine X_iconst (dk KX9_comesOut 44 rfl) 3 (by decide) ?_
      refine X_goto 85 (dk KX9_comesOut 45 rfl) (by decide) ?_
      refine X_sub [(0, .ref 132), (1, .int x1)] [1, 2] rfl ?_
      exact tX9_comesOut_85 hr_0 x1 3 (sI σ 132 37 ((gi σ 132 37) - 1)) h
  · have h := hO_t hc h
    refine X_iconst (dk KX9_comesOut 39 rfl) 2 (by decide) ?_
    refine X_goto 85 (dk KX9_comesOut 40 rfl) (by decide) ?_
    refine X_sub [(0, .ref 132), (1, .int x1)] [1, 2] rfl ?_
    exact tX9_comesOut_85 hr_0 x1 2 (sI σ 132 37 ((gi σ 132 37) - 1)) h
def fX9_comesOut_0 : Nat → Int32 → PS → Option (PS)
  | 0, _, _ => none
  | n + 1, x1, σ => (if (gi σ 132 37) ≤ 0 then some σ else gd (inb ((gi σ 132 37) - 1) 48) ((if (gi σ 155 (((gi σ 132 37) - 1) : Int32).toNatClampNeg) = 6 then some σ else (if x1 = 0 then fX9_comesOut_43 (fX9_comesOut_0 n) x1 σ else gd (inb ((gi σ 132 37) - 1) 48) ((if (gi σ 155 (((gi σ 132 37) - 1) : Int32).toNatClampNeg) = 10 then fX9_comesOut_43 (fX9_comesOut_0 n) x1 σ else some σ))))))
set_option maxRecDepth 100000 in
set_option maxHeartbeats 4000000 in
theorem tX9_comesOut_0 {P : PS → Prop} : ∀ (n : Nat) (x1 : Int32) (σ : PS), hO (fX9_comesOut_0 n x1 σ) P → X g mX9_comesOut 1 0 0 (pV P) 0 [(0, .ref 132), (1, .int x1)] [] (HP σ) := by
  intro n
  induction n with
  | zero =>
    intro x1 σ h
    rw [fX9_comesOut_0] at h
    exact (hO_none h).elim
  | succ n ih =>
    intro x1 σ h
    rw [fX9_comesOut_0] at h
    refine X_aload_n 0 rfl (dk KX9_comesOut 0 rfl) ?_
    refine Y_getI fX9_300 (Nat.le_of_ble_eq_true rfl) rfl (dk KX9_comesOut 1 rfl) ?_
    refine X_if_le 92 (dk KX9_comesOut 2 rfl) (by decide) (fun hc => ?_) (fun hc => ?_)
    · have h := hO_t hc h
      exact Y_vret (dk KX9_comesOut 50 rfl) rfl h
    · have h := hO_f hc h
      refine X_aload_n 0 rfl (dk KX9_comesOut 3 rfl) ?_
      refine Y_getR 155 fX9_86 (Nat.le_of_ble_eq_true rfl) rfl rfl (dk KX9_comesOut 4 rfl) ?_
      refine X_aload_n 0 rfl (dk KX9_comesOut 5 rfl) ?_
      refine Y_getI fX9_300 (Nat.le_of_ble_eq_true rfl) rfl (dk KX9_comesOut 6 rfl) ?_
      refine X_iconst (dk KX9_comesOut 7 rfl) 1 (by decide) ?_
      refine X_isub (dk KX9_comesOut 8 rfl) ?_
      refine Y_iald (Nat.le_of_ble_eq_true rfl) rfl (dk KX9_comesOut 9 rfl) h (fun hi1 h => ?_)
      refine X_bipush (dk KX9_comesOut 10 rfl) 6 (by decide) ?_
      refine X_icmp_eq 92 (dk KX9_comesOut 11 rfl) (by decide) (fun hc => ?_) (fun hc => ?_)
      · have h := hO_t hc h
        exact Y_vret (dk KX9_comesOut 50 rfl) rfl h
      · have h := hO_f hc h
        refine X_iload_n 1 rfl (dk KX9_comesOut 12 rfl) ?_
        refine X_if_eq 43 (dk KX9_comesOut 13 rfl) (by decide) (fun hc => ?_) (fun hc => ?_)
        · have h := hO_t hc h
          exact tX9_comesOut_43 ih x1 σ h
        · have h := hO_f hc h
          refine X_aload_n 0 rfl (dk KX9_comesOut 14 rfl) ?_
          refine Y_getR 155 fX9_86 (Nat.le_of_ble_eq_true rfl) rfl rfl (dk KX9_comesOut 15 rfl) ?_
          refine X_aload_n 0 rfl (dk KX9_comesOut 16 rfl) ?_
          refine Y_getI fX9_300 (Nat.le_of_ble_eq_true rfl) rfl (dk KX9_comesOut 17 rfl) ?_
          refine X_iconst (dk KX9_comesOut 18 rfl) 1 (by decide) ?_
          refine X_isub (dk KX9_comesOut 19 rfl) ?_
          refine Y_iald (Nat.le_of_ble_eq_true rfl) rfl (dk KX9_comesOut 20 rfl) h (fun hi2 h => ?_)
          refine X_bipush (dk KX9_comesOut 21 rfl) 10 (by decide) ?_
          refine X_icmp_ne 92 (dk KX9_comesOut 22 rfl) (by decide) (fun hc => ?_) (fun hc => ?_)
          · have h := hO_f hc h
            exact Y_vret (dk KX9_comesOut 50 rfl) rfl h
          · have h := hO_t hc h
            exact tX9_comesOut_43 ih x1 σ h
def fX9_comesOut (a1 : Int32) (σ : PS) : Option (PS) := fX9_comesOut_0 FU a1 σ
set_option maxRecDepth 100000 in
set_option maxHeartbeats 4000000 in
theorem okX9_comesOut (a1 : Int32) (σ : PS) (P : PS → Prop) (h : hO (fX9_comesOut a1 σ) P) : CON g mX9_comesOut 1 0 0 [.ref 132, .int a1] (HP σ) (pV P) := by
  refine CON.of (by decide) (by simp [lg_sl, Value.category]) ?_
  show X g _ _ _ _ _ 0 [(0, .ref 132), (1, .int a1)] [] _
  unfold fX9_comesOut at h
  exact tX9_comesOut_0 FU a1 σ h

def fX9_expression_329 (r12 : Int32 → Int32 → PS → Option (PS)) (x1 : Int32) (x2 : Int32) (x4 : Int32) (s1 : Int32) (σ : PS) : Option (PS) := (fX9_comesOut s1 σ).bind (fun σ59 => gd (inb (gi σ59 132 37) 48) ((fX9_next (sI (sI σ59 155 ((gi σ59 132 37) : Int32).toNatClampNeg x4) 132 37 ((gi (sI σ59 155 ((gi σ59 132 37) : Int32).toNatClampNeg x4) 132 37) + 1))).bind (fun σ63 => r12 x1 x2 σ63)))
set_option maxRecDepth 100000 in
set_option maxHeartbeats 4000000 in
theorem tX9_expression_329 {P : PS → Prop} {r12 : Int32 → Int32 → PS → Option (PS)} (hr_12 : ∀ (x1 : Int32) (x2 : Int32) (σ : PS), hO (r12 x1 x2 σ) P → X g mX9_expression 2 0 0 (pV P) 12 [(0, .ref 132), (1, .int x1), (2, .int x2)] [] (HP σ)) (x1 : Int32) (x2 : Int32) (x4 : Int32) (s1 : Int32) (σ : PS) (h : hO (fX9_expression_329 r12 x1 x2 x4 s1 σ) P) : X g mX9_expression 2 0 0 (pV P) 329 [(0, .ref 132), (1, .int x1), (2, .int x2), (4, .int x4)] [.int s1, .ref 132] (HP σ) := by
  unfold fX9_expression_329 at h
  refine Y_callVV wX9_306 (Nat.le_of_ble_eq_true rfl) rfl [.int s1] [] rfl rfl (Nat.le_of_ble_eq_true rfl) (Nat.le_of_ble_eq_true rfl) (dk KX9_expression 174 rfl) (fun Pc h => okX9_comesOut _ _ Pc h) h (fun σ59 e60 h => ?_)
  try dsimp only at h
  refine X_aload_n 0 rfl (dk KX9_expression 175 rfl) ?_
  refine Y_getR 155 fX9_86 (Nat.le_of_ble_eq_true rfl) rfl rfl (dk KX9_expression 176 rfl) ?_
  refine X_aload_n 0 rfl (dk KX9_expression 177 rfl) ?_
  refine Y_getI fX9_300 (Nat.le_of_ble_eq_true rfl) rfl (dk KX9_expression 178 rfl) ?_
  refine X_iload 3 rfl (dk KX9_expression 179 rfl) ?_
  refine Y_iast (Nat.le_of_ble_eq_true rfl) rfl (dk KX9_expression 180 rfl) h (fun hi61 h => ?_)
  refine X_aload_n 0 rfl (dk KX9_expression 181 rfl) ?_
  refine X_dup (dk KX9_expression 182 rfl) rfl ?_
  refine Y_getI fX9_300 (Nat.le_of_ble_eq_true rfl) rfl (dk KX9_expression 183 rfl) ?_
  refine X_iconst (dk KX9_expression 184 rfl) 1 (by decide) ?_
  refine X_iadd (dk KX9_expression 185 rfl) ?_
  refine Y_putI fX9_300 rfl (Nat.le_of_ble_eq_true rfl) rfl (dk KX9_expression 186 rfl) ?_
  refine X_aload_n 0 rfl (dk KX9_expression 187 rfl) ?_
  refine Y_callVV wX9_265 (Nat.le_of_ble_eq_true rfl) rfl [] [] rfl rfl (Nat.le_of_ble_eq_true rfl) (Nat.le_of_ble_eq_true rfl) (dk KX9_expression 188 rfl) (fun Pc h => okX9_next _ Pc h) h (fun σ63 e64 h => ?_)
  try dsimp only at h
  refine X_goto 12 (dk KX9_expression 189 rfl) (by decide) ?_
  refine X_sub [(0, .ref 132), (1, .int x1), (2, .int x2)] [0, 1, 2] rfl ?_
  exact hr_12 x1 x2 σ63 h
def fX9_expression_281 (r12 : Int32 → Int32 → PS → Option (PS)) (x1 : Int32) (s0 : Int32) (σ : PS) : Option (PS) := (if s0 = 0 then (if (gi σ 132 12) ≤ x1 then (fX9_comesOut 0 σ).bind (fun σ50 => some σ50) else (fX9_fail 1 σ).bind (fun σ53 => (fX9_comesOut 0 σ53).bind (fun σ56 => some σ56))) else gd (inb (gi σ 132 11) 403) ((if (gi σ 135 ((gi σ 132 11) : Int32).toNatClampNeg) = 10 then fX9_expression_329 r12 x1 s0 (gi σ 135 ((gi σ 132 11) : Int32).toNatClampNeg) 1 σ else fX9_expression_329 r12 x1 s0 (gi σ 135 ((gi σ 132 11) : Int32).toNatClampNeg) 0 σ)))
set_option maxRecDepth 100000 in
set_option maxHeartbeats 4000000 in
theorem tX9_expression_281 {P : PS → Prop} {r12 : Int32 → Int32 → PS → Option (PS)} (hr_12 : ∀ (x1 : Int32) (x2 : Int32) (σ : PS), hO (r12 x1 x2 σ) P → X g mX9_expression 2 0 0 (pV P) 12 [(0, .ref 132), (1, .int x1), (2, .int x2)] [] (HP σ)) (x1 : Int32) (s0 : Int32) (σ : PS) (h : hO (fX9_expression_281 r12 x1 s0 σ) P) : X g mX9_expression 2 0 0 (pV P) 281 [(0, .ref 132), (1, .int x1)] [.int s0] (HP σ) := by
  unfold fX9_expression_281 at h
  refine X_istore_n [(2, .int s0), (0, .ref 132), (1, .int x1)] (dk KX9_expression 147 rfl) (by decide) rfl ?_
  refine X_iload_n 0 rfl (dk KX9_expression 148 rfl) ?_
  refine X_if_ne 305 (dk KX9_expression 149 rfl) (by decide) (fun hc => ?_) (fun hc => ?_)
  · have h := hO_f hc h
    refine X_aload_n 1 rfl (dk KX9_expression 161 rfl) ?_
    refine Y_getR 135 fX9_20 (Nat.le_of_ble_eq_true rfl) rfl rfl (dk KX9_expression 162 rfl) ?_
    refine X_aload_n 1 rfl (dk KX9_expression 163 rfl) ?_
    refine Y_getI fX9_247 (Nat.le_of_ble_eq_true rfl) rfl (dk KX9_expression 164 rfl) ?_
    refine Y_iald (Nat.le_of_ble_eq_true rfl) rfl (dk KX9_expression 165 rfl) h (fun hi48 h => ?_)
    refine X_istore [(4, .int (gi σ 135 ((gi σ 132 11) : Int32).toNatClampNeg)), (2, .int s0), (0, .ref 132), (1, .int x1)] (dk KX9_expression 166 rfl) (by decide) rfl ?_
    refine X_aload_n 2 rfl (dk KX9_expression 167 rfl) ?_
    refine X_iload 0 rfl (dk KX9_expression 168 rfl) ?_
    refine X_bipush (dk KX9_expression 169 rfl) 10 (by decide) ?_
    refine X_icmp_ne 328 (dk KX9_expression 170 rfl) (by decide) (fun hc => ?_) (fun hc => ?_)
    · have h := hO_f hc h
      refine X_iconst (dk KX9_expression 173 rfl) 0 (by decide) ?_
      refine X_sub [(0, .ref 132), (1, .int x1), (2, .int s0), (4, .int (gi σ 135 ((gi σ 132 11) : Int32).toNatClampNeg))] [2, 3, 1, 0] rfl ?_
      exact tX9_expression_329 hr_12 x1 s0 (gi σ 135 ((gi σ 132 11) : Int32).toNatClampNeg) 0 σ h
    · have h := hO_t hc h
      refine X_iconst (dk KX9_expression 171 rfl) 1 (by decide) ?_
      refine X_goto 329 (dk KX9_expression 172 rfl) (by decide) ?_
      refine X_sub [(0, .ref 132), (1, .int x1), (2, .int s0), (4, .int (gi σ 135 ((gi σ 132 11) : Int32).toNatClampNeg))] [2, 3, 1, 0] rfl ?_
      exact tX9_expression_329 hr_12 x1 s0 (gi σ 135 ((gi σ 132 11) : Int32).toNatClampNeg) 1 σ h
  · have h := hO_t hc h
    refine X_aload_n 1 rfl (dk KX9_expression 150 rfl) ?_
    refine Y_getI fX9_271 (Nat.le_of_ble_eq_true rfl) rfl (dk KX9_expression 151 rfl) ?_
    refine X_iload_n 2 rfl (dk KX9_expression 152 rfl) ?_
    refine X_icmp_le 299 (dk KX9_expression 153 rfl) (by decide) (fun hc => ?_) (fun hc => ?_)
    · have h := hO_t hc h
      refine X_aload_n 1 rfl (dk KX9_expression 157 rfl) ?_
      refine X_iconst (dk KX9_expression 158 rfl) 0 (by decide) ?_
      refine Y_callVV wX9_306 (Nat.le_of_ble_eq_true rfl) rfl [.int 0] [] rfl rfl (Nat.le_of_ble_eq_true rfl) (Nat.le_of_ble_eq_true rfl) (dk KX9_expression 159 rfl) (fun Pc h => okX9_comesOut _ _ Pc h) h (fun σ50 e51 h => ?_)
      try dsimp only at h
      exact Y_vret (dk KX9_expression 160 rfl) rfl h
    · have h := hO_f hc h
      refine X_aload_n 1 rfl (dk KX9_expression 154 rfl) ?_
      refine X_iconst (dk KX9_expression 155 rfl) 1 (by decide) ?_
      refine Y_callVV wX9_259 (Nat.le_of_ble_eq_true rfl) rfl [.int 1] [] rfl rfl (Nat.le_of_ble_eq_true rfl) (Nat.le_of_ble_eq_true rfl) (dk KX9_expression 156 rfl) (fun Pc h => okX9_fail _ _ Pc h) h (fun σ53 e54 h => ?_)
      try dsimp only at h
      refine X_aload_n 1 rfl (dk KX9_expression 157 rfl) ?_
      refine X_iconst (dk KX9_expression 158 rfl) 0 (by decide) ?_
      refine Y_callVV wX9_306 (Nat.le_of_ble_eq_true rfl) rfl [.int 0] [] rfl rfl (Nat.le_of_ble_eq_true rfl) (Nat.le_of_ble_eq_true rfl) (dk KX9_expression 159 rfl) (fun Pc h => okX9_comesOut _ _ Pc h) h (fun σ56 e57 h => ?_)
      try dsimp only at h
      exact Y_vret (dk KX9_expression 160 rfl) rfl h
def fX9_expression_276 (r12 : Int32 → Int32 → PS → Option (PS)) (x1 : Int32) (σ : PS) : Option (PS) := fX9_expression_281 r12 x1 1 σ
set_option maxRecDepth 100000 in
set_option maxHeartbeats 4000000 in
theorem tX9_expression_276 {P : PS → Prop} {r12 : Int32 → Int32 → PS → Option (PS)} (hr_12 : ∀ (x1 : Int32) (x2 : Int32) (σ : PS), hO (r12 x1 x2 σ) P → X g mX9_expression 2 0 0 (pV P) 12 [(0, .ref 132), (1, .int x1), (2, .int x2)] [] (HP σ)) (x1 : Int32) (σ : PS) (h : hO (fX9_expression_276 r12 x1 σ) P) : X g mX9_expression 2 0 0 (pV P) 276 [(0, .ref 132), (1, .int x1)] [] (HP σ) := by
  unfold fX9_expression_276 at h
  refine X_iconst (dk KX9_expression 144 rfl) 1 (by decide) ?_
  refine X_goto 281 (dk KX9_expression 145 rfl) (by decide) ?_
  exact tX9_expression_281 hr_12 x1 1 σ h
def fX9_expression_249 (r12 : Int32 → Int32 → PS → Option (PS)) (x1 : Int32) (σ : PS) : Option (PS) := (fX9_is 8 σ).bind (fun qy39 => (fun (y39 : Int32) (σ40 : PS) => (if y39 = 0 then (fX9_is 9 σ40).bind (fun qy42 => (fun (y42 : Int32) (σ43 : PS) => (if y42 = 0 then (fX9_is 10 σ43).bind (fun qy45 => (fun (y45 : Int32) (σ46 : PS) => (if y45 = 0 then fX9_expression_281 r12 x1 0 σ46 else fX9_expression_276 r12 x1 σ46)) qy45.1 qy45.2) else fX9_expression_276 r12 x1 σ43)) qy42.1 qy42.2) else fX9_expression_276 r12 x1 σ40)) qy39.1 qy39.2)
set_option maxRecDepth 100000 in
set_option maxHeartbeats 4000000 in
theorem tX9_expression_249 {P : PS → Prop} {r12 : Int32 → Int32 → PS → Option (PS)} (hr_12 : ∀ (x1 : Int32) (x2 : Int32) (σ : PS), hO (r12 x1 x2 σ) P → X g mX9_expression 2 0 0 (pV P) 12 [(0, .ref 132), (1, .int x1), (2, .int x2)] [] (HP σ)) (x1 : Int32) (σ : PS) (h : hO (fX9_expression_249 r12 x1 σ) P) : X g mX9_expression 2 0 0 (pV P) 249 [(0, .ref 132), (1, .int x1)] [] (HP σ) := by
  unfold fX9_expression_249 at h
  refine X_aload_n 0 rfl (dk KX9_expression 132 rfl) ?_
  refine X_bipush (dk KX9_expression 133 rfl) 8 (by decide) ?_
  refine Y_callVI wX9_262 (Nat.le_of_ble_eq_true rfl) rfl [.int 8] [] rfl rfl (Nat.le_of_ble_eq_true rfl) (Nat.le_of_ble_eq_true rfl) (dk KX9_expression 134 rfl) (fun Pc h => okX9_is _ _ Pc h) h (fun y39 σ40 e41 h => ?_)
  try dsimp only at h
  refine X_if_ne 276 (dk KX9_expression 135 rfl) (by decide) (fun hc => ?_) (fun hc => ?_)
  · have h := hO_f hc h
    exact tX9_expression_276 hr_12 x1 σ40 h
  · have h := hO_t hc h
    refine X_aload_n 0 rfl (dk KX9_expression 136 rfl) ?_
    refine X_bipush (dk KX9_expression 137 rfl) 9 (by decide) ?_
    refine Y_callVI wX9_262 (Nat.le_of_ble_eq_true rfl) rfl [.int 9] [] rfl rfl (Nat.le_of_ble_eq_true rfl) (Nat.le_of_ble_eq_true rfl) (dk KX9_expression 138 rfl) (fun Pc h => okX9_is _ _ Pc h) h (fun y42 σ43 e44 h => ?_)
    try dsimp only at h
    refine X_if_ne 276 (dk KX9_expression 139 rfl) (by decide) (fun hc => ?_) (fun hc => ?_)
    · have h := hO_f hc h
      exact tX9_expression_276 hr_12 x1 σ43 h
    · have h := hO_t hc h
      refine X_aload_n 0 rfl (dk KX9_expression 140 rfl) ?_
      refine X_bipush (dk KX9_expression 141 rfl) 10 (by decide) ?_
      refine Y_callVI wX9_262 (Nat.le_of_ble_eq_true rfl) rfl [.int 10] [] rfl rfl (Nat.le_of_ble_eq_true rfl) (Nat.le_of_ble_eq_true rfl) (dk KX9_expression 142 rfl) (fun Pc h => okX9_is _ _ Pc h) h (fun y45 σ46 e47 h => ?_)
      try dsimp only at h
      refine X_if_eq 280 (dk KX9_expression 143 rfl) (by decide) (fun hc => ?_) (fun hc => ?_)
      · have h := hO_t hc h
        refine X_iconst (dk KX9_expression 146 rfl) 0 (by decide) ?_
        exact tX9_expression_281 hr_12 x1 0 σ46 h
      · have h := hO_f hc h
        exact tX9_expression_276 hr_12 x1 σ46 h
def fX9_expression_200 (r12 : Int32 → Int32 → PS → Option (PS)) : Nat → Int32 → PS → Option (PS)
  | 0, _, _ => none
  | n + 1, x1, σ => (fX9_is 7 σ).bind (fun qy30 => (fun (y30 : Int32) (σ31 : PS) => (if y30 = 0 then fX9_expression_249 r12 x1 σ31 else (if (gi σ31 132 12) ≤ x1 then fX9_expression_249 r12 x1 σ31 else (fX9_comesOut 0 σ31).bind (fun σ34 => (fX9_next (sI (sI σ34 132 37 ((gi σ34 132 37) - 1)) 132 12 ((gi (sI σ34 132 37 ((gi σ34 132 37) - 1)) 132 12) - 1))).bind (fun σ37 => fX9_expression_200 r12 n x1 σ37))))) qy30.1 qy30.2)
set_option maxRecDepth 100000 in
set_option maxHeartbeats 4000000 in
theorem tX9_expression_200 {P : PS → Prop} {r12 : Int32 → Int32 → PS → Option (PS)} (hr_12 : ∀ (x1 : Int32) (x2 : Int32) (σ : PS), hO (r12 x1 x2 σ) P → X g mX9_expression 2 0 0 (pV P) 12 [(0, .ref 132), (1, .int x1), (2, .int x2)] [] (HP σ)) : ∀ (n : Nat) (x1 : Int32) (σ : PS), hO (fX9_expression_200 r12 n x1 σ) P → X g mX9_expression 2 0 0 (pV P) 200 [(0, .ref 132), (1, .int x1)] [] (HP σ) := by
  intro n
  induction n with
  | zero =>
    intro x1 σ h
    rw [fX9_expression_200] at h
    exact (hO_none h).elim
  | succ n ih =>
    intro x1 σ h
    rw [fX9_expression_200] at h
    refine X_aload_n 0 rfl (dk KX9_expression 106 rfl) ?_
    refine X_bipush (dk KX9_expression 107 rfl) 7 (by decide) ?_
    refine Y_callVI wX9_262 (Nat.le_of_ble_eq_true rfl) rfl [.int 7] [] rfl rfl (Nat.le_of_ble_eq_true rfl) (Nat.le_of_ble_eq_true rfl) (dk KX9_expression 108 rfl) (fun Pc h => okX9_is _ _ Pc h) h (fun y30 σ31 e32 h => ?_)
    try dsimp only at h
    refine X_if_eq 249 (dk KX9_expression 109 rfl) (by decide) (fun hc => ?_) (fun hc => ?_)
    · have h := hO_t hc h
      exact tX9_expression_249 hr_12 x1 σ31 h
    · have h := hO_f hc h
      refine X_aload_n 0 rfl (dk KX9_expression 110 rfl) ?_
      refine Y_getI fX9_271 (Nat.le_of_ble_eq_true rfl) rfl (dk KX9_expression 111 rfl) ?_
      refine X_iload_n 1 rfl (dk KX9_expression 112 rfl) ?_
      refine X_icmp_le 249 (dk KX9_expression 113 rfl) (by decide) (fun hc => ?_) (fun hc => ?_)
      · have h := hO_t hc h
        exact tX9_expression_249 hr_12 x1 σ31 h
      · have h := hO_f hc h
        refine X_aload_n 0 rfl (dk KX9_expression 114 rfl) ?_
        refine X_iconst (dk KX9_expression 115 rfl) 0 (by decide) ?_
        refine Y_callVV wX9_306 (Nat.le_of_ble_eq_true rfl) rfl [.int 0] [] rfl rfl (Nat.le_of_ble_eq_true rfl) (Nat.le_of_ble_eq_true rfl) (dk KX9_expression 116 rfl) (fun Pc h => okX9_comesOut _ _ Pc h) h (fun σ34 e35 h => ?_)
        try dsimp only at h
        refine X_aload_n 0 rfl (dk KX9_expression 117 rfl) ?_
        refine X_dup (dk KX9_expression 118 rfl) rfl ?_
        refine Y_getI fX9_300 (Nat.le_of_ble_eq_true rfl) rfl (dk KX9_expression 119 rfl) ?_
        refine X_iconst (dk KX9_expression 120 rfl) 1 (by decide) ?_
        refine X_isub (dk KX9_expression 121 rfl) ?_
        refine Y_putI fX9_300 rfl (Nat.le_of_ble_eq_true rfl) rfl (dk KX9_expression 122 rfl) ?_
        refine X_aload_n 0 rfl (dk KX9_expression 123 rfl) ?_
        refine X_dup (dk KX9_expression 124 rfl) rfl ?_
        refine Y_getI fX9_271 (Nat.le_of_ble_eq_true rfl) rfl (dk KX9_expression 125 rfl) ?_
        refine X_iconst (dk KX9_expression 126 rfl) 1 (by decide) ?_
        refine X_isub (dk KX9_expression 127 rfl) ?_
        refine Y_putI fX9_271 rfl (Nat.le_of_ble_eq_true rfl) rfl (dk KX9_expression 128 rfl) ?_
        refine X_aload_n 0 rfl (dk KX9_expression 129 rfl) ?_
        refine Y_callVV wX9_265 (Nat.le_of_ble_eq_true rfl) rfl [] [] rfl rfl (Nat.le_of_ble_eq_true rfl) (Nat.le_of_ble_eq_true rfl) (dk KX9_expression 130 rfl) (fun Pc h => okX9_next _ Pc h) h (fun σ37 e38 h => ?_)
        try dsimp only at h
        refine X_goto 200 (dk KX9_expression 131 rfl) (by decide) ?_
        exact ih x1 σ37 h
def fX9_expression_196 (r12 : Int32 → Int32 → PS → Option (PS)) (x1 : Int32) (σ : PS) : Option (PS) := (fX9_next σ).bind (fun σ28 => fX9_expression_200 r12 FU x1 σ28)
set_option maxRecDepth 100000 in
set_option maxHeartbeats 4000000 in
theorem tX9_expression_196 {P : PS → Prop} {r12 : Int32 → Int32 → PS → Option (PS)} (hr_12 : ∀ (x1 : Int32) (x2 : Int32) (σ : PS), hO (r12 x1 x2 σ) P → X g mX9_expression 2 0 0 (pV P) 12 [(0, .ref 132), (1, .int x1), (2, .int x2)] [] (HP σ)) (x1 : Int32) (σ : PS) (h : hO (fX9_expression_196 r12 x1 σ) P) : X g mX9_expression 2 0 0 (pV P) 196 [(0, .ref 132), (1, .int x1)] [] (HP σ) := by
  unfold fX9_expression_196 at h
  refine X_aload_n 0 rfl (dk KX9_expression 104 rfl) ?_
  refine Y_callVV wX9_265 (Nat.le_of_ble_eq_true rfl) rfl [] [] rfl rfl (Nat.le_of_ble_eq_true rfl) (Nat.le_of_ble_eq_true rfl) (dk KX9_expression 105 rfl) (fun Pc h => okX9_next _ Pc h) h (fun σ28 e29 h => ?_)
  try dsimp only at h
  exact tX9_expression_200 hr_12 FU x1 σ28 h
def fX9_expression_150 (r12 : Int32 → Int32 → PS → Option (PS)) (x1 : Int32) (x3 : Int32) (σ : PS) : Option (PS) := (if (gi σ 132 13) ≤ 0 then (if x3 = 0 then gd (inb (gi σ 132 11) 403) ((fX9_emit 0 (gi σ 137 ((gi σ 132 11) : Int32).toNatClampNeg) σ).bind (fun σ21 => fX9_expression_196 r12 x1 σ21)) else gd (inb (gi σ 132 11) 403) ((fX9_emit 1 ((gi σ 135 ((gi σ 132 11) : Int32).toNatClampNeg) - 26) σ).bind (fun σ25 => fX9_expression_196 r12 x1 σ25))) else some σ)
set_option maxRecDepth 100000 in
set_option maxHeartbeats 4000000 in
theorem tX9_expression_150 {P : PS → Prop} {r12 : Int32 → Int32 → PS → Option (PS)} (hr_12 : ∀ (x1 : Int32) (x2 : Int32) (σ : PS), hO (r12 x1 x2 σ) P → X g mX9_expression 2 0 0 (pV P) 12 [(0, .ref 132), (1, .int x1), (2, .int x2)] [] (HP σ)) (x1 : Int32) (x3 : Int32) (σ : PS) (h : hO (fX9_expression_150 r12 x1 x3 σ) P) : X g mX9_expression 2 0 0 (pV P) 150 [(0, .ref 132), (1, .int x1), (3, .int x3)] [] (HP σ) := by
  unfold fX9_expression_150 at h
  refine X_aload_n 0 rfl (dk KX9_expression 79 rfl) ?_
  refine Y_getI fX9_244 (Nat.le_of_ble_eq_true rfl) rfl (dk KX9_expression 80 rfl) ?_
  refine X_if_le 158 (dk KX9_expression 81 rfl) (by decide) (fun hc => ?_) (fun hc => ?_)
  · have h := hO_t hc h
    refine X_iload_n 2 rfl (dk KX9_expression 83 rfl) ?_
    refine X_if_eq 182 (dk KX9_expression 84 rfl) (by decide) (fun hc => ?_) (fun hc => ?_)
    · have h := hO_t hc h
      refine X_aload_n 0 rfl (dk KX9_expression 96 rfl) ?_
      refine X_iconst (dk KX9_expression 97 rfl) 0 (by decide) ?_
      refine X_aload_n 0 rfl (dk KX9_expression 98 rfl) ?_
      refine Y_getR 137 fX9_27 (Nat.le_of_ble_eq_true rfl) rfl rfl (dk KX9_expression 99 rfl) ?_
      refine X_aload_n 0 rfl (dk KX9_expression 100 rfl) ?_
      refine Y_getI fX9_247 (Nat.le_of_ble_eq_true rfl) rfl (dk KX9_expression 101 rfl) ?_
      refine Y_iald (Nat.le_of_ble_eq_true rfl) rfl (dk KX9_expression 102 rfl) h (fun hi19 h => ?_)
      refine Y_callVV wX9_303 (Nat.le_of_ble_eq_true rfl) rfl [.int 0, .int (gi σ 137 ((gi σ 132 11) : Int32).toNatClampNeg)] [] rfl rfl (Nat.le_of_ble_eq_true rfl) (Nat.le_of_ble_eq_true rfl) (dk KX9_expression 103 rfl) (fun Pc h => okX9_emit _ _ _ Pc h) h (fun σ21 e22 h => ?_)
      try dsimp only at h
      refine X_sub [(0, .ref 132), (1, .int x1)] [0, 1] rfl ?_
      exact tX9_expression_196 hr_12 x1 σ21 h
    · have h := hO_f hc h
      refine X_aload_n 0 rfl (dk KX9_expression 85 rfl) ?_
      refine X_iconst (dk KX9_expression 86 rfl) 1 (by decide) ?_
      refine X_aload_n 0 rfl (dk KX9_expression 87 rfl) ?_
      refine Y_getR 135 fX9_20 (Nat.le_of_ble_eq_true rfl) rfl rfl (dk KX9_expression 88 rfl) ?_
      refine X_aload_n 0 rfl (dk KX9_expression 89 rfl) ?_
      refine Y_getI fX9_247 (Nat.le_of_ble_eq_true rfl) rfl (dk KX9_expression 90 rfl) ?_
      refine Y_iald (Nat.le_of_ble_eq_true rfl) rfl (dk KX9_expression 91 rfl) h (fun hi23 h => ?_)
      refine X_bipush (dk KX9_expression 92 rfl) 26 (by decide) ?_
      refine X_isub (dk KX9_expression 93 rfl) ?_
      refine Y_callVV wX9_303 (Nat.le_of_ble_eq_true rfl) rfl [.int 1, .int ((gi σ 135 ((gi σ 132 11) : Int32).toNatClampNeg) - 26)] [] rfl rfl (Nat.le_of_ble_eq_true rfl) (Nat.le_of_ble_eq_true rfl) (dk KX9_expression 94 rfl) (fun Pc h => okX9_emit _ _ _ Pc h) h (fun σ25 e26 h => ?_)
      try dsimp only at h
      refine X_goto 196 (dk KX9_expression 95 rfl) (by decide) ?_
      refine X_sub [(0, .ref 132), (1, .int x1)] [0, 1] rfl ?_
      exact tX9_expression_196 hr_12 x1 σ25 h
  · have h := hO_f hc h
    exact Y_vret (dk KX9_expression 82 rfl) rfl h
def fX9_expression_132 (r12 : Int32 → Int32 → PS → Option (PS)) (x1 : Int32) (s0 : Int32) (σ : PS) : Option (PS) := (fX9_is 2 σ).bind (fun qy13 => (fun (y13 : Int32) (σ14 : PS) => (if y13 = 0 then (if s0 = 0 then (fX9_fail 1 σ14).bind (fun σ17 => fX9_expression_150 r12 x1 s0 σ17) else fX9_expression_150 r12 x1 s0 σ14) else fX9_expression_150 r12 x1 s0 σ14)) qy13.1 qy13.2)
set_option maxRecDepth 100000 in
set_option maxHeartbeats 4000000 in
theorem tX9_expression_132 {P : PS → Prop} {r12 : Int32 → Int32 → PS → Option (PS)} (hr_12 : ∀ (x1 : Int32) (x2 : Int32) (σ : PS), hO (r12 x1 x2 σ) P → X g mX9_expression 2 0 0 (pV P) 12 [(0, .ref 132), (1, .int x1), (2, .int x2)] [] (HP σ)) (x1 : Int32) (s0 : Int32) (σ : PS) (h : hO (fX9_expression_132 r12 x1 s0 σ) P) : X g mX9_expression 2 0 0 (pV P) 132 [(0, .ref 132), (1, .int x1)] [.int s0] (HP σ) := by
  unfold fX9_expression_132 at h
  refine X_istore_n [(3, .int s0), (0, .ref 132), (1, .int x1)] (dk KX9_expression 69 rfl) (by decide) rfl ?_
  refine X_aload_n 1 rfl (dk KX9_expression 70 rfl) ?_
  refine X_iconst (dk KX9_expression 71 rfl) 2 (by decide) ?_
  refine Y_callVI wX9_262 (Nat.le_of_ble_eq_true rfl) rfl [.int 2] [] rfl rfl (Nat.le_of_ble_eq_true rfl) (Nat.le_of_ble_eq_true rfl) (dk KX9_expression 72 rfl) (fun Pc h => okX9_is _ _ Pc h) h (fun y13 σ14 e15 h => ?_)
  try dsimp only at h
  refine X_if_ne 150 (dk KX9_expression 73 rfl) (by decide) (fun hc => ?_) (fun hc => ?_)
  · have h := hO_f hc h
    refine X_sub [(0, .ref 132), (1, .int x1), (3, .int s0)] [1, 2, 0] rfl ?_
    exact tX9_expression_150 hr_12 x1 s0 σ14 h
  · have h := hO_t hc h
    refine X_iload_n 0 rfl (dk KX9_expression 74 rfl) ?_
    refine X_if_ne 150 (dk KX9_expression 75 rfl) (by decide) (fun hc => ?_) (fun hc => ?_)
    · have h := hO_f hc h
      refine X_sub [(0, .ref 132), (1, .int x1), (3, .int s0)] [1, 2, 0] rfl ?_
      exact tX9_expression_150 hr_12 x1 s0 σ14 h
    · have h := hO_t hc h
      refine X_aload_n 1 rfl (dk KX9_expression 76 rfl) ?_
      refine X_iconst (dk KX9_expression 77 rfl) 1 (by decide) ?_
      refine Y_callVV wX9_259 (Nat.le_of_ble_eq_true rfl) rfl [.int 1] [] rfl rfl (Nat.le_of_ble_eq_true rfl) (Nat.le_of_ble_eq_true rfl) (dk KX9_expression 78 rfl) (fun Pc h => okX9_fail _ _ Pc h) h (fun σ17 e18 h => ?_)
      try dsimp only at h
      refine X_sub [(0, .ref 132), (1, .int x1), (3, .int s0)] [1, 2, 0] rfl ?_
      exact tX9_expression_150 hr_12 x1 s0 σ17 h
def fX9_expression_131 (r12 : Int32 → Int32 → PS → Option (PS)) (x1 : Int32) (σ : PS) : Option (PS) := fX9_expression_132 r12 x1 0 σ
set_option maxRecDepth 100000 in
set_option maxHeartbeats 4000000 in
theorem tX9_expression_131 {P : PS → Prop} {r12 : Int32 → Int32 → PS → Option (PS)} (hr_12 : ∀ (x1 : Int32) (x2 : Int32) (σ : PS), hO (r12 x1 x2 σ) P → X g mX9_expression 2 0 0 (pV P) 12 [(0, .ref 132), (1, .int x1), (2, .int x2)] [] (HP σ)) (x1 : Int32) (σ : PS) (h : hO (fX9_expression_131 r12 x1 σ) P) : X g mX9_expression 2 0 0 (pV P) 131 [(0, .ref 132), (1, .int x1)] [] (HP σ) := by
  unfold fX9_expression_131 at h
  refine X_iconst (dk KX9_expression 68 rfl) 0 (by decide) ?_
  exact tX9_expression_132 hr_12 x1 0 σ h
def fX9_expression_46 (r12 : Int32 → Int32 → PS → Option (PS)) (x1 : Int32) (x2 : Int32) (σ : PS) : Option (PS) := (if (gi σ 132 13) ≤ 0 then (fX9_next (sI σ 132 12 ((gi σ 132 12) + 1))).bind (fun σ10 => gd (inb (gi σ10 132 37) 48) (r12 x1 x2 (sI (sI σ10 155 ((gi σ10 132 37) : Int32).toNatClampNeg 6) 132 37 ((gi (sI σ10 155 ((gi σ10 132 37) : Int32).toNatClampNeg 6) 132 37) + 1)))) else some σ)
set_option maxRecDepth 100000 in
set_option maxHeartbeats 4000000 in
theorem tX9_expression_46 {P : PS → Prop} {r12 : Int32 → Int32 → PS → Option (PS)} (hr_12 : ∀ (x1 : Int32) (x2 : Int32) (σ : PS), hO (r12 x1 x2 σ) P → X g mX9_expression 2 0 0 (pV P) 12 [(0, .ref 132), (1, .int x1), (2, .int x2)] [] (HP σ)) (x1 : Int32) (x2 : Int32) (σ : PS) (h : hO (fX9_expression_46 r12 x1 x2 σ) P) : X g mX9_expression 2 0 0 (pV P) 46 [(0, .ref 132), (1, .int x1), (2, .int x2)] [] (HP σ) := by
  unfold fX9_expression_46 at h
  refine X_aload_n 0 rfl (dk KX9_expression 24 rfl) ?_
  refine Y_getI fX9_244 (Nat.le_of_ble_eq_true rfl) rfl (dk KX9_expression 25 rfl) ?_
  refine X_if_le 54 (dk KX9_expression 26 rfl) (by decide) (fun hc => ?_) (fun hc => ?_)
  · have h := hO_t hc h
    refine X_aload_n 0 rfl (dk KX9_expression 28 rfl) ?_
    refine X_dup (dk KX9_expression 29 rfl) rfl ?_
    refine Y_getI fX9_271 (Nat.le_of_ble_eq_true rfl) rfl (dk KX9_expression 30 rfl) ?_
    refine X_iconst (dk KX9_expression 31 rfl) 1 (by decide) ?_
    refine X_iadd (dk KX9_expression 32 rfl) ?_
    refine Y_putI fX9_271 rfl (Nat.le_of_ble_eq_true rfl) rfl (dk KX9_expression 33 rfl) ?_
    refine X_aload_n 0 rfl (dk KX9_expression 34 rfl) ?_
    refine Y_callVV wX9_265 (Nat.le_of_ble_eq_true rfl) rfl [] [] rfl rfl (Nat.le_of_ble_eq_true rfl) (Nat.le_of_ble_eq_true rfl) (dk KX9_expression 35 rfl) (fun Pc h => okX9_next _ Pc h) h (fun σ10 e11 h => ?_)
    try dsimp only at h
    refine X_aload_n 0 rfl (dk KX9_expression 36 rfl) ?_
    refine Y_getR 155 fX9_86 (Nat.le_of_ble_eq_true rfl) rfl rfl (dk KX9_expression 37 rfl) ?_
    refine X_aload_n 0 rfl (dk KX9_expression 38 rfl) ?_
    refine Y_getI fX9_300 (Nat.le_of_ble_eq_true rfl) rfl (dk KX9_expression 39 rfl) ?_
    refine X_bipush (dk KX9_expression 40 rfl) 6 (by decide) ?_
    refine Y_iast (Nat.le_of_ble_eq_true rfl) rfl (dk KX9_expression 41 rfl) h (fun hi12 h => ?_)
    refine X_aload_n 0 rfl (dk KX9_expression 42 rfl) ?_
    refine X_dup (dk KX9_expression 43 rfl) rfl ?_
    refine Y_getI fX9_300 (Nat.le_of_ble_eq_true rfl) rfl (dk KX9_expression 44 rfl) ?_
    refine X_iconst (dk KX9_expression 45 rfl) 1 (by decide) ?_
    refine X_iadd (dk KX9_expression 46 rfl) ?_
    refine Y_putI fX9_300 rfl (Nat.le_of_ble_eq_true rfl) rfl (dk KX9_expression 47 rfl) ?_
    refine X_goto 12 (dk KX9_expression 48 rfl) (by decide) ?_
    exact hr_12 x1 x2 (sI (sI σ10 155 ((gi σ10 132 37) : Int32).toNatClampNeg 6) 132 37 ((gi (sI σ10 155 ((gi σ10 132 37) : Int32).toNatClampNeg 6) 132 37) + 1)) h
  · have h := hO_f hc h
    exact Y_vret (dk KX9_expression 27 rfl) rfl h
def fX9_expression_12 : Nat → Int32 → Int32 → PS → Option (PS)
  | 0, _, _, _ => none
  | n + 1, x1, x2, σ => (if x2 = 0 then some σ else (if (gi σ 132 13) = 0 then (fX9_is 6 σ).bind (fun qy1 => (fun (y1 : Int32) (σ2 : PS) => (if y1 = 0 then (if (gi σ2 132 13) = 0 then gd (inb (gi σ2 132 11) 403) ((if (gi σ2 135 ((gi σ2 132 11) : Int32).toNatClampNeg) < 26 then fX9_expression_131 (fX9_expression_12 n) x1 σ2 else gd (inb (gi σ2 132 11) 403) ((if 33 < (gi σ2 135 ((gi σ2 132 11) : Int32).toNatClampNeg) then fX9_expression_131 (fX9_expression_12 n) x1 σ2 else fX9_expression_132 (fX9_expression_12 n) x1 1 σ2)))) else fX9_expression_131 (fX9_expression_12 n) x1 σ2) else (if (gi σ2 132 12) = 6 then (fX9_fail 2 σ2).bind (fun σ7 => fX9_expression_46 (fX9_expression_12 n) x1 x2 σ7) else fX9_expression_46 (fX9_expression_12 n) x1 x2 σ2))) qy1.1 qy1.2) else some σ))
set_option maxRecDepth 100000 in
set_option maxHeartbeats 4000000 in
theorem tX9_expression_12 {P : PS → Prop} : ∀ (n : Nat) (x1 : Int32) (x2 : Int32) (σ : PS), hO (fX9_expression_12 n x1 x2 σ) P → X g mX9_expression 2 0 0 (pV P) 12 [(0, .ref 132), (1, .int x1), (2, .int x2)] [] (HP σ) := by
  intro n
  induction n with
  | zero =>
    intro x1 x2 σ h
    rw [fX9_expression_12] at h
    exact (hO_none h).elim
  | succ n ih =>
    intro x1 x2 σ h
    rw [fX9_expression_12] at h
    refine X_iload_n 2 rfl (dk KX9_expression 8 rfl) ?_
    refine X_if_eq 360 (dk KX9_expression 9 rfl) (by decide) (fun hc => ?_) (fun hc => ?_)
    · have h := hO_t hc h
      exact Y_vret (dk KX9_expression 190 rfl) rfl h
    · have h := hO_f hc h
      refine X_aload_n 0 rfl (dk KX9_expression 10 rfl) ?_
      refine Y_getI fX9_244 (Nat.le_of_ble_eq_true rfl) rfl (dk KX9_expression 11 rfl) ?_
      refine X_if_ne 360 (dk KX9_expression 12 rfl) (by decide) (fun hc => ?_) (fun hc => ?_)
      · have h := hO_f hc h
        exact Y_vret (dk KX9_expression 190 rfl) rfl h
      · have h := hO_t hc h
        refine X_aload_n 0 rfl (dk KX9_expression 13 rfl) ?_
        refine X_bipush (dk KX9_expression 14 rfl) 6 (by decide) ?_
        refine Y_callVI wX9_262 (Nat.le_of_ble_eq_true rfl) rfl [.int 6] [] rfl rfl (Nat.le_of_ble_eq_true rfl) (Nat.le_of_ble_eq_true rfl) (dk KX9_expression 15 rfl) (fun Pc h => okX9_is _ _ Pc h) h (fun y1 σ2 e3 h => ?_)
        try dsimp only at h
        refine X_if_eq 92 (dk KX9_expression 16 rfl) (by decide) (fun hc => ?_) (fun hc => ?_)
        · have h := hO_t hc h
          refine X_aload_n 0 rfl (dk KX9_expression 49 rfl) ?_
          refine Y_getI fX9_244 (Nat.le_of_ble_eq_true rfl) rfl (dk KX9_expression 50 rfl) ?_
          refine X_if_ne 131 (dk KX9_expression 51 rfl) (by decide) (fun hc => ?_) (fun hc => ?_)
          · have h := hO_f hc h
            refine X_sub [(0, .ref 132), (1, .int x1)] [0, 1] rfl ?_
            exact tX9_expression_131 ih x1 σ2 h
          · have h := hO_t hc h
            refine X_aload_n 0 rfl (dk KX9_expression 52 rfl) ?_
            refine Y_getR 135 fX9_20 (Nat.le_of_ble_eq_true rfl) rfl rfl (dk KX9_expression 53 rfl) ?_
            refine X_aload_n 0 rfl (dk KX9_expression 54 rfl) ?_
            refine Y_getI fX9_247 (Nat.le_of_ble_eq_true rfl) rfl (dk KX9_expression 55 rfl) ?_
            refine Y_iald (Nat.le_of_ble_eq_true rfl) rfl (dk KX9_expression 56 rfl) h (fun hi4 h => ?_)
            refine X_bipush (dk KX9_expression 57 rfl) 26 (by decide) ?_
            refine X_icmp_lt 131 (dk KX9_expression 58 rfl) (by decide) (fun hc => ?_) (fun hc => ?_)
            · have h := hO_t hc h
              refine X_sub [(0, .ref 132), (1, .int x1)] [0, 1] rfl ?_
              exact tX9_expression_131 ih x1 σ2 h
            · have h := hO_f hc h
              refine X_aload_n 0 rfl (dk KX9_expression 59 rfl) ?_
              refine Y_getR 135 fX9_20 (Nat.le_of_ble_eq_true rfl) rfl rfl (dk KX9_expression 60 rfl) ?_
              refine X_aload_n 0 rfl (dk KX9_expression 61 rfl) ?_
              refine Y_getI fX9_247 (Nat.le_of_ble_eq_true rfl) rfl (dk KX9_expression 62 rfl) ?_
              refine Y_iald (Nat.le_of_ble_eq_true rfl) rfl (dk KX9_expression 63 rfl) h (fun hi5 h => ?_)
              refine X_bipush (dk KX9_expression 64 rfl) 33 (by decide) ?_
              refine X_icmp_gt 131 (dk KX9_expression 65 rfl) (by decide) (fun hc => ?_) (fun hc => ?_)
              · have h := hO_t hc h
                refine X_sub [(0, .ref 132), (1, .int x1)] [0, 1] rfl ?_
                exact tX9_expression_131 ih x1 σ2 h
              · have h := hO_f hc h
                refine X_iconst (dk KX9_expression 66 rfl) 1 (by decide) ?_
                refine X_goto 132 (dk KX9_expression 67 rfl) (by decide) ?_
                refine X_sub [(0, .ref 132), (1, .int x1)] [0, 1] rfl ?_
                exact tX9_expression_132 ih x1 1 σ2 h
        · have h := hO_f hc h
          refine X_aload_n 0 rfl (dk KX9_expression 17 rfl) ?_
          refine Y_getI fX9_271 (Nat.le_of_ble_eq_true rfl) rfl (dk KX9_expression 18 rfl) ?_
          refine X_bipush (dk KX9_expression 19 rfl) 6 (by decide) ?_
          refine X_icmp_ne 46 (dk KX9_expression 20 rfl) (by decide) (fun hc => ?_) (fun hc => ?_)
          · have h := hO_f hc h
            exact tX9_expression_46 ih x1 x2 σ2 h
          · have h := hO_t hc h
            refine X_aload_n 0 rfl (dk KX9_expression 21 rfl) ?_
            refine X_iconst (dk KX9_expression 22 rfl) 2 (by decide) ?_
            refine Y_callVV wX9_259 (Nat.le_of_ble_eq_true rfl) rfl [.int 2] [] rfl rfl (Nat.le_of_ble_eq_true rfl) (Nat.le_of_ble_eq_true rfl) (dk KX9_expression 23 rfl) (fun Pc h => okX9_fail _ _ Pc h) h (fun σ7 e8 h => ?_)
            try dsimp only at h
            exact tX9_expression_46 ih x1 x2 σ7 h
def fX9_expression  (σ : PS) : Option (PS) := fX9_expression_12 FU (gi (sI σ 132 37 0) 132 12) 1 (sI σ 132 37 0)
set_option maxRecDepth 100000 in
set_option maxHeartbeats 4000000 in
theorem okX9_expression  (σ : PS) (P : PS → Prop) (h : hO (fX9_expression  σ) P) : CON g mX9_expression 2 0 0 [.ref 132] (HP σ) (pV P) := by
  refine CON.of (by decide) (by simp [lg_sl, Value.category]) ?_
  show X g _ _ _ _ _ 0 [(0, .ref 132)] [] _
  unfold fX9_expression at h
  refine X_aload_n 0 rfl (dk KX9_expression 0 rfl) ?_
  refine X_iconst (dk KX9_expression 1 rfl) 0 (by decide) ?_
  refine Y_putI fX9_300 rfl (Nat.le_of_ble_eq_true rfl) rfl (dk KX9_expression 2 rfl) ?_
  refine X_aload_n 0 rfl (dk KX9_expression 3 rfl) ?_
  refine Y_getI fX9_271 (Nat.le_of_ble_eq_true rfl) rfl (dk KX9_expression 4 rfl) ?_
  refine X_istore_n [(1, .int (gi (sI σ 132 37 0) 132 12)), (0, .ref 132)] (dk KX9_expression 5 rfl) (by decide) rfl ?_
  refine X_iconst (dk KX9_expression 6 rfl) 1 (by decide) ?_
  refine X_istore_n [(2, .int 1), (1, .int (gi (sI σ 132 37 0) 132 12)), (0, .ref 132)] (dk KX9_expression 7 rfl) (by decide) rfl ?_
  refine X_sub [(0, .ref 132), (1, .int (gi (sI σ 132 37 0) 132 12)), (2, .int 1)] [2, 1, 0] rfl ?_
  exact tX9_expression_12 FU (gi (sI σ 132 37 0) 132 12) 1 (sI σ 132 37 0) h

def fX9_relation_54 (x1 : Int32) (x2 : Int32) (x3 : Int32) (σ : PS) : Option (PS) := (fX9_next σ).bind (fun σ9 => (fX9_expression σ9).bind (fun σ12 => (if (gi σ12 132 13) ≤ 0 then gd (inb (gi σ12 132 19) 2) (gd (inb ((200 * (gi σ12 132 19)) + (gi σ12 147 ((gi σ12 132 19) : Int32).toNatClampNeg)) 400) (gd (inb ((200 * (gi σ12 132 19)) + (gi σ12 147 ((gi σ12 132 19) : Int32).toNatClampNeg)) 400) (gd (inb ((200 * (gi σ12 132 19)) + (gi σ12 147 ((gi σ12 132 19) : Int32).toNatClampNeg)) 400) (gd (inb ((200 * (gi σ12 132 19)) + (gi σ12 147 ((gi σ12 132 19) : Int32).toNatClampNeg)) 400) (gd (inb ((200 * (gi σ12 132 19)) + (gi σ12 147 ((gi σ12 132 19) : Int32).toNatClampNeg)) 400) (gd (inb (gi (sI (sI (sI (sI (sI σ12 148 (((200 * (gi σ12 132 19)) + (gi σ12 147 ((gi σ12 132 19) : Int32).toNatClampNeg)) : Int32).toNatClampNeg x3) 149 (((200 * (gi σ12 132 19)) + (gi σ12 147 ((gi σ12 132 19) : Int32).toNatClampNeg)) : Int32).toNatClampNeg x2) 150 (((200 * (gi σ12 132 19)) + (gi σ12 147 ((gi σ12 132 19) : Int32).toNatClampNeg)) : Int32).toNatClampNeg (gi σ9 132 33)) 151 (((200 * (gi σ12 132 19)) + (gi σ12 147 ((gi σ12 132 19) : Int32).toNatClampNeg)) : Int32).toNatClampNeg (gi (sI (sI (sI σ12 148 (((200 * (gi σ12 132 19)) + (gi σ12 147 ((gi σ12 132 19) : Int32).toNatClampNeg)) : Int32).toNatClampNeg x3) 149 (((200 * (gi σ12 132 19)) + (gi σ12 147 ((gi σ12 132 19) : Int32).toNatClampNeg)) : Int32).toNatClampNeg x2) 150 (((200 * (gi σ12 132 19)) + (gi σ12 147 ((gi σ12 132 19) : Int32).toNatClampNeg)) : Int32).toNatClampNeg (gi σ9 132 33)) 132 33)) 152 (((200 * (gi σ12 132 19)) + (gi σ12 147 ((gi σ12 132 19) : Int32).toNatClampNeg)) : Int32).toNatClampNeg (vp_nar .boolean x1)) 132 19) 2) (gd (inb (gi (sI (sI (sI (sI (sI σ12 148 (((200 * (gi σ12 132 19)) + (gi σ12 147 ((gi σ12 132 19) : Int32).toNatClampNeg)) : Int32).toNatClampNeg x3) 149 (((200 * (gi σ12 132 19)) + (gi σ12 147 ((gi σ12 132 19) : Int32).toNatClampNeg)) : Int32).toNatClampNeg x2) 150 (((200 * (gi σ12 132 19)) + (gi σ12 147 ((gi σ12 132 19) : Int32).toNatClampNeg)) : Int32).toNatClampNeg (gi σ9 132 33)) 151 (((200 * (gi σ12 132 19)) + (gi σ12 147 ((gi σ12 132 19) : Int32).toNatClampNeg)) : Int32).toNatClampNeg (gi (sI (sI (sI σ12 148 (((200 * (gi σ12 132 19)) + (gi σ12 147 ((gi σ12 132 19) : Int32).toNatClampNeg)) : Int32).toNatClampNeg x3) 149 (((200 * (gi σ12 132 19)) + (gi σ12 147 ((gi σ12 132 19) : Int32).toNatClampNeg)) : Int32).toNatClampNeg x2) 150 (((200 * (gi σ12 132 19)) + (gi σ12 147 ((gi σ12 132 19) : Int32).toNatClampNeg)) : Int32).toNatClampNeg (gi σ9 132 33)) 132 33)) 152 (((200 * (gi σ12 132 19)) + (gi σ12 147 ((gi σ12 132 19) : Int32).toNatClampNeg)) : Int32).toNatClampNeg (vp_nar .boolean x1)) 132 19) 2) (some (sI (sI (sI (sI (sI (sI σ12 148 (((200 * (gi σ12 132 19)) + (gi σ12 147 ((gi σ12 132 19) : Int32).toNatClampNeg)) : Int32).toNatClampNeg x3) 149 (((200 * (gi σ12 132 19)) + (gi σ12 147 ((gi σ12 132 19) : Int32).toNatClampNeg)) : Int32).toNatClampNeg x2) 150 (((200 * (gi σ12 132 19)) + (gi σ12 147 ((gi σ12 132 19) : Int32).toNatClampNeg)) : Int32).toNatClampNeg (gi σ9 132 33)) 151 (((200 * (gi σ12 132 19)) + (gi σ12 147 ((gi σ12 132 19) : Int32).toNatClampNeg)) : Int32).toNatClampNeg (gi (sI (sI (sI σ12 148 (((200 * (gi σ12 132 19)) + (gi σ12 147 ((gi σ12 132 19) : Int32).toNatClampNeg)) : Int32).toNatClampNeg x3) 149 (((200 * (gi σ12 132 19)) + (gi σ12 147 ((gi σ12 132 19) : Int32).toNatClampNeg)) : Int32).toNatClampNeg x2) 150 (((200 * (gi σ12 132 19)) + (gi σ12 147 ((gi σ12 132 19) : Int32).toNatClampNeg)) : Int32).toNatClampNeg (gi σ9 132 33)) 132 33)) 152 (((200 * (gi σ12 132 19)) + (gi σ12 147 ((gi σ12 132 19) : Int32).toNatClampNeg)) : Int32).toNatClampNeg (vp_nar .boolean x1)) 147 ((gi (sI (sI (sI (sI (sI σ12 148 (((200 * (gi σ12 132 19)) + (gi σ12 147 ((gi σ12 132 19) : Int32).toNatClampNeg)) : Int32).toNatClampNeg x3) 149 (((200 * (gi σ12 132 19)) + (gi σ12 147 ((gi σ12 132 19) : Int32).toNatClampNeg)) : Int32).toNatClampNeg x2) 150 (((200 * (gi σ12 132 19)) + (gi σ12 147 ((gi σ12 132 19) : Int32).toNatClampNeg)) : Int32).toNatClampNeg (gi σ9 132 33)) 151 (((200 * (gi σ12 132 19)) + (gi σ12 147 ((gi σ12 132 19) : Int32).toNatClampNeg)) : Int32).toNatClampNeg (gi (sI (sI (sI σ12 148 (((200 * (gi σ12 132 19)) + (gi σ12 147 ((gi σ12 132 19) : Int32).toNatClampNeg)) : Int32).toNatClampNeg x3) 149 (((200 * (gi σ12 132 19)) + (gi σ12 147 ((gi σ12 132 19) : Int32).toNatClampNeg)) : Int32).toNatClampNeg x2) 150 (((200 * (gi σ12 132 19)) + (gi σ12 147 ((gi σ12 132 19) : Int32).toNatClampNeg)) : Int32).toNatClampNeg (gi σ9 132 33)) 132 33)) 152 (((200 * (gi σ12 132 19)) + (gi σ12 147 ((gi σ12 132 19) : Int32).toNatClampNeg)) : Int32).toNatClampNeg (vp_nar .boolean x1)) 132 19) : Int32).toNatClampNeg ((gi (sI (sI (sI (sI (sI σ12 148 (((200 * (gi σ12 132 19)) + (gi σ12 147 ((gi σ12 132 19) : Int32).toNatClampNeg)) : Int32).toNatClampNeg x3) 149 (((200 * (gi σ12 132 19)) + (gi σ12 147 ((gi σ12 132 19) : Int32).toNatClampNeg)) : Int32).toNatClampNeg x2) 150 (((200 * (gi σ12 132 19)) + (gi σ12 147 ((gi σ12 132 19) : Int32).toNatClampNeg)) : Int32).toNatClampNeg (gi σ9 132 33)) 151 (((200 * (gi σ12 132 19)) + (gi σ12 147 ((gi σ12 132 19) : Int32).toNatClampNeg)) : Int32).toNatClampNeg (gi (sI (sI (sI σ12 148 (((200 * (gi σ12 132 19)) + (gi σ12 147 ((gi σ12 132 19) : Int32).toNatClampNeg)) : Int32).toNatClampNeg x3) 149 (((200 * (gi σ12 132 19)) + (gi σ12 147 ((gi σ12 132 19) : Int32).toNatClampNeg)) : Int32).toNatClampNeg x2) 150 (((200 * (gi σ12 132 19)) + (gi σ12 147 ((gi σ12 132 19) : Int32).toNatClampNeg)) : Int32).toNatClampNeg (gi σ9 132 33)) 132 33)) 152 (((200 * (gi σ12 132 19)) + (gi σ12 147 ((gi σ12 132 19) : Int32).toNatClampNeg)) : Int32).toNatClampNeg (vp_nar .boolean x1)) 147 ((gi (sI (sI (sI (sI (sI σ12 148 (((200 * (gi σ12 132 19)) + (gi σ12 147 ((gi σ12 132 19) : Int32).toNatClampNeg)) : Int32).toNatClampNeg x3) 149 (((200 * (gi σ12 132 19)) + (gi σ12 147 ((gi σ12 132 19) : Int32).toNatClampNeg)) : Int32).toNatClampNeg x2) 150 (((200 * (gi σ12 132 19)) + (gi σ12 147 ((gi σ12 132 19) : Int32).toNatClampNeg)) : Int32).toNatClampNeg (gi σ9 132 33)) 151 (((200 * (gi σ12 132 19)) + (gi σ12 147 ((gi σ12 132 19) : Int32).toNatClampNeg)) : Int32).toNatClampNeg (gi (sI (sI (sI σ12 148 (((200 * (gi σ12 132 19)) + (gi σ12 147 ((gi σ12 132 19) : Int32).toNatClampNeg)) : Int32).toNatClampNeg x3) 149 (((200 * (gi σ12 132 19)) + (gi σ12 147 ((gi σ12 132 19) : Int32).toNatClampNeg)) : Int32).toNatClampNeg x2) 150 (((200 * (gi σ12 132 19)) + (gi σ12 147 ((gi σ12 132 19) : Int32).toNatClampNeg)) : Int32).toNatClampNeg (gi σ9 132 33)) 132 33)) 152 (((200 * (gi σ12 132 19)) + (gi σ12 147 ((gi σ12 132 19) : Int32).toNatClampNeg)) : Int32).toNatClampNeg (vp_nar .boolean x1)) 132 19) : Int32).toNatClampNeg) + 1)))))))))) else some σ12)))
set_option maxRecDepth 100000 in
set_option maxHeartbeats 4000000 in
theorem tX9_relation_54 {P : PS → Prop} (x1 : Int32) (x2 : Int32) (x3 : Int32) (σ : PS) (h : hO (fX9_relation_54 x1 x2 x3 σ) P) : X g mX9_relation 3 0 0 (pV P) 54 [(0, .ref 132), (1, .int x1), (2, .int x2), (3, .int x3)] [] (HP σ) := by
  unfold fX9_relation_54 at h
  refine X_aload_n 0 rfl (dk KX9_relation 29 rfl) ?_
  refine Y_callVV wX9_265 (Nat.le_of_ble_eq_true rfl) rfl [] [] rfl rfl (Nat.le_of_ble_eq_true rfl) (Nat.le_of_ble_eq_true rfl) (dk KX9_relation 30 rfl) (fun Pc h => okX9_next _ Pc h) h (fun σ9 e10 h => ?_)
  try dsimp only at h
  refine X_aload_n 0 rfl (dk KX9_relation 31 rfl) ?_
  refine Y_getI fX9_280 (Nat.le_of_ble_eq_true rfl) rfl (dk KX9_relation 32 rfl) ?_
  refine X_istore [(4, .int (gi σ9 132 33)), (0, .ref 132), (1, .int x1), (2, .int x2), (3, .int x3)] (dk KX9_relation 33 rfl) (by decide) rfl ?_
  refine X_aload_n 1 rfl (dk KX9_relation 34 rfl) ?_
  refine Y_callVV wX9_293 (Nat.le_of_ble_eq_true rfl) rfl [] [] rfl rfl (Nat.le_of_ble_eq_true rfl) (Nat.le_of_ble_eq_true rfl) (dk KX9_relation 35 rfl) (fun Pc h => okX9_expression _ Pc h) h (fun σ12 e13 h => ?_)
  try dsimp only at h
  refine X_aload_n 1 rfl (dk KX9_relation 36 rfl) ?_
  refine Y_getI fX9_244 (Nat.le_of_ble_eq_true rfl) rfl (dk KX9_relation 37 rfl) ?_
  refine X_if_le 76 (dk KX9_relation 38 rfl) (by decide) (fun hc => ?_) (fun hc => ?_)
  · have h := hO_t hc h
    refine X_sipush (dk KX9_relation 40 rfl) 200 (by decide) ?_
    refine X_aload_n 1 rfl (dk KX9_relation 41 rfl) ?_
    refine Y_getI fX9_277 (Nat.le_of_ble_eq_true rfl) rfl (dk KX9_relation 42 rfl) ?_
    refine X_imul (dk KX9_relation 43 rfl) ?_
    refine X_aload_n 1 rfl (dk KX9_relation 44 rfl) ?_
    refine Y_getR 147 fX9_61 (Nat.le_of_ble_eq_true rfl) rfl rfl (dk KX9_relation 45 rfl) ?_
    refine X_aload_n 1 rfl (dk KX9_relation 46 rfl) ?_
    refine Y_getI fX9_277 (Nat.le_of_ble_eq_true rfl) rfl (dk KX9_relation 47 rfl) ?_
    refine Y_iald (Nat.le_of_ble_eq_true rfl) rfl (dk KX9_relation 48 rfl) h (fun hi14 h => ?_)
    refine X_iadd (dk KX9_relation 49 rfl) ?_
    refine X_istore [(5, .int ((200 * (gi σ12 132 19)) + (gi σ12 147 ((gi σ12 132 19) : Int32).toNatClampNeg))), (4, .int (gi σ9 132 33)), (0, .ref 132), (1, .int x1), (2, .int x2), (3, .int x3)] (dk KX9_relation 50 rfl) (by decide) rfl ?_
    refine X_aload_n 2 rfl (dk KX9_relation 51 rfl) ?_
    refine Y_getR 148 fX9_64 (Nat.le_of_ble_eq_true rfl) rfl rfl (dk KX9_relation 52 rfl) ?_
    refine X_iload 0 rfl (dk KX9_relation 53 rfl) ?_
    refine X_iload_n 5 rfl (dk KX9_relation 54 rfl) ?_
    refine Y_iast (Nat.le_of_ble_eq_true rfl) rfl (dk KX9_relation 55 rfl) h (fun hi15 h => ?_)
    refine X_aload_n 2 rfl (dk KX9_relation 56 rfl) ?_
    refine Y_getR 149 fX9_67 (Nat.le_of_ble_eq_true rfl) rfl rfl (dk KX9_relation 57 rfl) ?_
    refine X_iload 0 rfl (dk KX9_relation 58 rfl) ?_
    refine X_iload_n 4 rfl (dk KX9_relation 59 rfl) ?_
    refine Y_iast (Nat.le_of_ble_eq_true rfl) rfl (dk KX9_relation 60 rfl) h (fun hi16 h => ?_)
    refine X_aload_n 2 rfl (dk KX9_relation 61 rfl) ?_
    refine Y_getR 150 fX9_70 (Nat.le_of_ble_eq_true rfl) rfl rfl (dk KX9_relation 62 rfl) ?_
    refine X_iload 0 rfl (dk KX9_relation 63 rfl) ?_
    refine X_iload 1 rfl (dk KX9_relation 64 rfl) ?_
    refine Y_iast (Nat.le_of_ble_eq_true rfl) rfl (dk KX9_relation 65 rfl) h (fun hi17 h => ?_)
    refine X_aload_n 2 rfl (dk KX9_relation 66 rfl) ?_
    refine Y_getR 151 fX9_73 (Nat.le_of_ble_eq_true rfl) rfl rfl (dk KX9_relation 67 rfl) ?_
    refine X_iload 0 rfl (dk KX9_relation 68 rfl) ?_
    refine X_aload_n 2 rfl (dk KX9_relation 69 rfl) ?_
    refine Y_getI fX9_280 (Nat.le_of_ble_eq_true rfl) rfl (dk KX9_relation 70 rfl) ?_
    refine Y_iast (Nat.le_of_ble_eq_true rfl) rfl (dk KX9_relation 71 rfl) h (fun hi18 h => ?_)
    refine X_aload_n 2 rfl (dk KX9_relation 72 rfl) ?_
    refine Y_getR 152 fX9_76 (Nat.le_of_ble_eq_true rfl) rfl rfl (dk KX9_relation 73 rfl) ?_
    refine X_iload 0 rfl (dk KX9_relation 74 rfl) ?_
    refine X_iload_n 3 rfl (dk KX9_relation 75 rfl) ?_
    refine Y_zast (Nat.le_of_ble_eq_true rfl) rfl (dk KX9_relation 76 rfl) h (fun hi19 h => ?_)
    refine X_aload_n 2 rfl (dk KX9_relation 77 rfl) ?_
    refine Y_getR 147 fX9_61 (Nat.le_of_ble_eq_true rfl) rfl rfl (dk KX9_relation 78 rfl) ?_
    refine X_aload_n 2 rfl (dk KX9_relation 79 rfl) ?_
    refine Y_getI fX9_277 (Nat.le_of_ble_eq_true rfl) rfl (dk KX9_relation 80 rfl) ?_
    refine X_dup2 (dk KX9_relation 81 rfl) rfl rfl ?_
    refine Y_iald (Nat.le_of_ble_eq_true rfl) rfl (dk KX9_relation 82 rfl) h (fun hi20 h => ?_)
    refine X_iconst (dk KX9_relation 83 rfl) 1 (by decide) ?_
    refine X_iadd (dk KX9_relation 84 rfl) ?_
    refine Y_iast (Nat.le_of_ble_eq_true rfl) rfl (dk KX9_relation 85 rfl) h (fun hi21 h => ?_)
    exact Y_vret (dk KX9_relation 86 rfl) rfl h
  · have h := hO_f hc h
    exact Y_vret (dk KX9_relation 39 rfl) rfl h
def fX9_relation_49 (x1 : Int32) (x2 : Int32) (x3 : Int32) (σ : PS) : Option (PS) := (fX9_fail 1 σ).bind (fun σ6 => fX9_relation_54 x1 x2 x3 σ6)
set_option maxRecDepth 100000 in
set_option maxHeartbeats 4000000 in
theorem tX9_relation_49 {P : PS → Prop} (x1 : Int32) (x2 : Int32) (x3 : Int32) (σ : PS) (h : hO (fX9_relation_49 x1 x2 x3 σ) P) : X g mX9_relation 3 0 0 (pV P) 49 [(0, .ref 132), (1, .int x1), (2, .int x2), (3, .int x3)] [] (HP σ) := by
  unfold fX9_relation_49 at h
  refine X_aload_n 0 rfl (dk KX9_relation 26 rfl) ?_
  refine X_iconst (dk KX9_relation 27 rfl) 1 (by decide) ?_
  refine Y_callVV wX9_259 (Nat.le_of_ble_eq_true rfl) rfl [.int 1] [] rfl rfl (Nat.le_of_ble_eq_true rfl) (Nat.le_of_ble_eq_true rfl) (dk KX9_relation 28 rfl) (fun Pc h => okX9_fail _ _ Pc h) h (fun σ6 e7 h => ?_)
  try dsimp only at h
  exact tX9_relation_54 x1 x2 x3 σ6 h
def fX9_relation_32 (x1 : Int32) (x2 : Int32) (s0 : Int32) (σ : PS) : Option (PS) := (if (gi σ 132 13) = 0 then (if s0 < 0 then fX9_relation_49 x1 x2 s0 σ else (if s0 ≤ 3 then fX9_relation_54 x1 x2 s0 σ else fX9_relation_49 x1 x2 s0 σ)) else fX9_relation_54 x1 x2 s0 σ)
set_option maxRecDepth 100000 in
set_option maxHeartbeats 4000000 in
theorem tX9_relation_32 {P : PS → Prop} (x1 : Int32) (x2 : Int32) (s0 : Int32) (σ : PS) (h : hO (fX9_relation_32 x1 x2 s0 σ) P) : X g mX9_relation 3 0 0 (pV P) 32 [(0, .ref 132), (1, .int x1), (2, .int x2)] [.int s0] (HP σ) := by
  unfold fX9_relation_32 at h
  refine X_istore_n [(3, .int s0), (0, .ref 132), (1, .int x1), (2, .int x2)] (dk KX9_relation 17 rfl) (by decide) rfl ?_
  refine X_aload_n 1 rfl (dk KX9_relation 18 rfl) ?_
  refine Y_getI fX9_244 (Nat.le_of_ble_eq_true rfl) rfl (dk KX9_relation 19 rfl) ?_
  refine X_if_ne 54 (dk KX9_relation 20 rfl) (by decide) (fun hc => ?_) (fun hc => ?_)
  · have h := hO_f hc h
    refine X_sub [(0, .ref 132), (1, .int x1), (2, .int x2), (3, .int s0)] [1, 2, 3, 0] rfl ?_
    exact tX9_relation_54 x1 x2 s0 σ h
  · have h := hO_t hc h
    refine X_iload_n 0 rfl (dk KX9_relation 21 rfl) ?_
    refine X_if_lt 49 (dk KX9_relation 22 rfl) (by decide) (fun hc => ?_) (fun hc => ?_)
    · have h := hO_t hc h
      refine X_sub [(0, .ref 132), (1, .int x1), (2, .int x2), (3, .int s0)] [1, 2, 3, 0] rfl ?_
      exact tX9_relation_49 x1 x2 s0 σ h
    · have h := hO_f hc h
      refine X_iload_n 0 rfl (dk KX9_relation 23 rfl) ?_
      refine X_iconst (dk KX9_relation 24 rfl) 3 (by decide) ?_
      refine X_icmp_le 54 (dk KX9_relation 25 rfl) (by decide) (fun hc => ?_) (fun hc => ?_)
      · have h := hO_t hc h
        refine X_sub [(0, .ref 132), (1, .int x1), (2, .int x2), (3, .int s0)] [1, 2, 3, 0] rfl ?_
        exact tX9_relation_54 x1 x2 s0 σ h
      · have h := hO_f hc h
        refine X_sub [(0, .ref 132), (1, .int x1), (2, .int x2), (3, .int s0)] [1, 2, 3, 0] rfl ?_
        exact tX9_relation_49 x1 x2 s0 σ h
def fX9_relation (a1 : Int32) (σ : PS) : Option (PS) := (fX9_expression σ).bind (fun σ2 => (if (gi σ2 132 13) ≤ 0 then gd (inb (gi σ2 132 11) 403) (fX9_relation_32 a1 (gi σ 132 33) ((gi σ2 135 ((gi σ2 132 11) : Int32).toNatClampNeg) - 11) σ2) else fX9_relation_32 a1 (gi σ 132 33) 0 σ2))
set_option maxRecDepth 100000 in
set_option maxHeartbeats 4000000 in
theorem okX9_relation (a1 : Int32) (σ : PS) (P : PS → Prop) (h : hO (fX9_relation a1 σ) P) : CON g mX9_relation 3 0 0 [.ref 132, .int a1] (HP σ) (pV P) := by
  refine CON.of (by decide) (by simp [lg_sl, Value.category]) ?_
  show X g _ _ _ _ _ 0 [(0, .ref 132), (1, .int a1)] [] _
  unfold fX9_relation at h
  refine X_aload_n 0 rfl (dk KX9_relation 0 rfl) ?_
  refine Y_getI fX9_280 (Nat.le_of_ble_eq_true rfl) rfl (dk KX9_relation 1 rfl) ?_
  refine X_istore_n [(2, .int (gi σ 132 33)), (0, .ref 132), (1, .int a1)] (dk KX9_relation 2 rfl) (by decide) rfl ?_
  refine X_aload_n 1 rfl (dk KX9_relation 3 rfl) ?_
  refine Y_callVV wX9_293 (Nat.le_of_ble_eq_true rfl) rfl [] [] rfl rfl (Nat.le_of_ble_eq_true rfl) (Nat.le_of_ble_eq_true rfl) (dk KX9_relation 4 rfl) (fun Pc h => okX9_expression _ Pc h) h (fun σ2 e3 h => ?_)
  try dsimp only at h
  refine X_aload_n 1 rfl (dk KX9_relation 5 rfl) ?_
  refine Y_getI fX9_244 (Nat.le_of_ble_eq_true rfl) rfl (dk KX9_relation 6 rfl) ?_
  refine X_if_le 20 (dk KX9_relation 7 rfl) (by decide) (fun hc => ?_) (fun hc => ?_)
  · have h := hO_t hc h
    refine X_aload_n 1 rfl (dk KX9_relation 10 rfl) ?_
    refine Y_getR 135 fX9_20 (Nat.le_of_ble_eq_true rfl) rfl rfl (dk KX9_relation 11 rfl) ?_
    refine X_aload_n 1 rfl (dk KX9_relation 12 rfl) ?_
    refine Y_getI fX9_247 (Nat.le_of_ble_eq_true rfl) rfl (dk KX9_relation 13 rfl) ?_
    refine Y_iald (Nat.le_of_ble_eq_true rfl) rfl (dk KX9_relation 14 rfl) h (fun hi4 h => ?_)
    refine X_bipush (dk KX9_relation 15 rfl) 11 (by decide) ?_
    refine X_isub (dk KX9_relation 16 rfl) ?_
    refine X_sub [(0, .ref 132), (1, .int a1), (2, .int (gi σ 132 33))] [1, 2, 0] rfl ?_
    exact tX9_relation_32 a1 (gi σ 132 33) ((gi σ2 135 ((gi σ2 132 11) : Int32).toNatClampNeg) - 11) σ2 h
  · have h := hO_f hc h
    refine X_iconst (dk KX9_relation 8 rfl) 0 (by decide) ?_
    refine X_goto 32 (dk KX9_relation 9 rfl) (by decide) ?_
    refine X_sub [(0, .ref 132), (1, .int a1), (2, .int (gi σ 132 33))] [1, 2, 0] rfl ?_
    exact tX9_relation_32 a1 (gi σ 132 33) 0 σ2 h

def fX9_tellRule_332 (x2 : Int32) (σ : PS) : Option (PS) := (fX9_must 4 σ).bind (fun σ67 => (if (gi σ67 132 13) ≤ 0 then gd (inb (gi σ67 132 19) 2) (gd (inb x2 40) (gd (inb (gi (sI σ67 146 (x2 : Int32).toNatClampNeg (gi σ67 147 ((gi σ67 132 19) : Int32).toNatClampNeg)) 132 19) 2) (gd (inb (gi (sI σ67 146 (x2 : Int32).toNatClampNeg (gi σ67 147 ((gi σ67 132 19) : Int32).toNatClampNeg)) 132 19) 2) (some (sI (sI σ67 146 (x2 : Int32).toNatClampNeg (gi σ67 147 ((gi σ67 132 19) : Int32).toNatClampNeg)) 140 ((gi (sI σ67 146 (x2 : Int32).toNatClampNeg (gi σ67 147 ((gi σ67 132 19) : Int32).toNatClampNeg)) 132 19) : Int32).toNatClampNeg ((gi (sI σ67 146 (x2 : Int32).toNatClampNeg (gi σ67 147 ((gi σ67 132 19) : Int32).toNatClampNeg)) 140 ((gi (sI σ67 146 (x2 : Int32).toNatClampNeg (gi σ67 147 ((gi σ67 132 19) : Int32).toNatClampNeg)) 132 19) : Int32).toNatClampNeg) + 1)))))) else some σ67))
set_option maxRecDepth 100000 in
set_option maxHeartbeats 4000000 in
theorem tX9_tellRule_332 {P : PS → Prop} (x2 : Int32) (σ : PS) (h : hO (fX9_tellRule_332 x2 σ) P) : X g mX9_tellRule 4 0 0 (pV P) 332 [(0, .ref 132), (2, .int x2)] [] (HP σ) := by
  unfold fX9_tellRule_332 at h
  refine X_aload_n 0 rfl (dk KX9_tellRule 181 rfl) ?_
  refine X_iconst (dk KX9_tellRule 182 rfl) 4 (by decide) ?_
  refine Y_callVV wX9_286 (Nat.le_of_ble_eq_true rfl) rfl [.int 4] [] rfl rfl (Nat.le_of_ble_eq_true rfl) (Nat.le_of_ble_eq_true rfl) (dk KX9_tellRule 183 rfl) (fun Pc h => okX9_must _ _ Pc h) h (fun σ67 e68 h => ?_)
  try dsimp only at h
  refine X_aload_n 0 rfl (dk KX9_tellRule 184 rfl) ?_
  refine Y_getI fX9_244 (Nat.le_of_ble_eq_true rfl) rfl (dk KX9_tellRule 185 rfl) ?_
  refine X_if_le 345 (dk KX9_tellRule 186 rfl) (by decide) (fun hc => ?_) (fun hc => ?_)
  · have h := hO_t hc h
    refine X_aload_n 0 rfl (dk KX9_tellRule 188 rfl) ?_
    refine Y_getR 146 fX9_58 (Nat.le_of_ble_eq_true rfl) rfl rfl (dk KX9_tellRule 189 rfl) ?_
    refine X_iload_n 1 rfl (dk KX9_tellRule 190 rfl) ?_
    refine X_aload_n 0 rfl (dk KX9_tellRule 191 rfl) ?_
    refine Y_getR 147 fX9_61 (Nat.le_of_ble_eq_true rfl) rfl rfl (dk KX9_tellRule 192 rfl) ?_
    refine X_aload_n 0 rfl (dk KX9_tellRule 193 rfl) ?_
    refine Y_getI fX9_277 (Nat.le_of_ble_eq_true rfl) rfl (dk KX9_tellRule 194 rfl) ?_
    refine Y_iald (Nat.le_of_ble_eq_true rfl) rfl (dk KX9_tellRule 195 rfl) h (fun hi69 h => ?_)
    refine Y_iast (Nat.le_of_ble_eq_true rfl) rfl (dk KX9_tellRule 196 rfl) h (fun hi70 h => ?_)
    refine X_aload_n 0 rfl (dk KX9_tellRule 197 rfl) ?_
    refine Y_getR 140 fX9_40 (Nat.le_of_ble_eq_true rfl) rfl rfl (dk KX9_tellRule 198 rfl) ?_
    refine X_aload_n 0 rfl (dk KX9_tellRule 199 rfl) ?_
    refine Y_getI fX9_277 (Nat.le_of_ble_eq_true rfl) rfl (dk KX9_tellRule 200 rfl) ?_
    refine X_dup2 (dk KX9_tellRule 201 rfl) rfl rfl ?_
    refine Y_iald (Nat.le_of_ble_eq_true rfl) rfl (dk KX9_tellRule 202 rfl) h (fun hi71 h => ?_)
    refine X_iconst (dk KX9_tellRule 203 rfl) 1 (by decide) ?_
    refine X_iadd (dk KX9_tellRule 204 rfl) ?_
    refine Y_iast (Nat.le_of_ble_eq_true rfl) rfl (dk KX9_tellRule 205 rfl) h (fun hi72 h => ?_)
    exact Y_vret (dk KX9_tellRule 206 rfl) rfl h
  · have h := hO_f hc h
    exact Y_vret (dk KX9_tellRule 187 rfl) rfl h
def fX9_tellRule_320 (r276 : Int32 → Int32 → Int32 → PS → Option (PS)) (x2 : Int32) (x4 : Int32) (s0 : Int32) (σ : PS) : Option (PS) := (if s0 = 0 then r276 x2 s0 x4 σ else (fX9_next σ).bind (fun σ64 => r276 x2 s0 x4 σ64))
set_option maxRecDepth 100000 in
set_option maxHeartbeats 4000000 in
theorem tX9_tellRule_320 {P : PS → Prop} {r276 : Int32 → Int32 → Int32 → PS → Option (PS)} (hr_276 : ∀ (x2 : Int32) (x3 : Int32) (x4 : Int32) (σ : PS), hO (r276 x2 x3 x4 σ) P → X g mX9_tellRule 4 0 0 (pV P) 276 [(0, .ref 132), (2, .int x2), (3, .int x3), (4, .int x4)] [] (HP σ)) (x2 : Int32) (x4 : Int32) (s0 : Int32) (σ : PS) (h : hO (fX9_tellRule_320 r276 x2 x4 s0 σ) P) : X g mX9_tellRule 4 0 0 (pV P) 320 [(0, .ref 132), (2, .int x2), (4, .int x4)] [.int s0] (HP σ) := by
  unfold fX9_tellRule_320 at h
  refine X_istore_n [(3, .int s0), (0, .ref 132), (2, .int x2), (4, .int x4)] (dk KX9_tellRule 175 rfl) (by decide) rfl ?_
  refine X_iload_n 0 rfl (dk KX9_tellRule 176 rfl) ?_
  refine X_if_eq 276 (dk KX9_tellRule 177 rfl) (by decide) (fun hc => ?_) (fun hc => ?_)
  · have h := hO_t hc h
    refine X_sub [(0, .ref 132), (2, .int x2), (3, .int s0), (4, .int x4)] [1, 2, 0, 3] rfl ?_
    exact hr_276 x2 s0 x4 σ h
  · have h := hO_f hc h
    refine X_aload_n 1 rfl (dk KX9_tellRule 178 rfl) ?_
    refine Y_callVV wX9_265 (Nat.le_of_ble_eq_true rfl) rfl [] [] rfl rfl (Nat.le_of_ble_eq_true rfl) (Nat.le_of_ble_eq_true rfl) (dk KX9_tellRule 179 rfl) (fun Pc h => okX9_next _ Pc h) h (fun σ64 e65 h => ?_)
    try dsimp only at h
    refine X_goto 276 (dk KX9_tellRule 180 rfl) (by decide) ?_
    refine X_sub [(0, .ref 132), (2, .int x2), (3, .int s0), (4, .int x4)] [1, 2, 0, 3] rfl ?_
    exact hr_276 x2 s0 x4 σ64 h
def fX9_tellRule_315 (r276 : Int32 → Int32 → Int32 → PS → Option (PS)) (x2 : Int32) (x4 : Int32) (σ : PS) : Option (PS) := fX9_tellRule_320 r276 x2 x4 1 σ
set_option maxRecDepth 100000 in
set_option maxHeartbeats 4000000 in
theorem tX9_tellRule_315 {P : PS → Prop} {r276 : Int32 → Int32 → Int32 → PS → Option (PS)} (hr_276 : ∀ (x2 : Int32) (x3 : Int32) (x4 : Int32) (σ : PS), hO (r276 x2 x3 x4 σ) P → X g mX9_tellRule 4 0 0 (pV P) 276 [(0, .ref 132), (2, .int x2), (3, .int x3), (4, .int x4)] [] (HP σ)) (x2 : Int32) (x4 : Int32) (σ : PS) (h : hO (fX9_tellRule_315 r276 x2 x4 σ) P) : X g mX9_tellRule 4 0 0 (pV P) 315 [(0, .ref 132), (2, .int x2), (4, .int x4)] [] (HP σ) := by
  unfold fX9_tellRule_315 at h
  refine X_iconst (dk KX9_tellRule 172 rfl) 1 (by decide) ?_
  refine X_goto 320 (dk KX9_tellRule 173 rfl) (by decide) ?_
  exact tX9_tellRule_320 hr_276 x2 x4 1 σ h
def fX9_tellRule_276 : Nat → Int32 → Int32 → Int32 → PS → Option (PS)
  | 0, _, _, _, _ => none
  | n + 1, x2, x3, x4, σ => (if x3 = 0 then fX9_tellRule_332 x2 σ else (if (gi σ 132 13) = 0 then (fX9_relation x4 σ).bind (fun σ55 => (fX9_is 24 σ55).bind (fun qy57 => (fun (y57 : Int32) (σ58 : PS) => (if y57 = 0 then (fX9_is 25 σ58).bind (fun qy60 => (fun (y60 : Int32) (σ61 : PS) => (if y60 = 0 then fX9_tellRule_320 (fX9_tellRule_276 n) x2 y57 0 σ61 else fX9_tellRule_315 (fX9_tellRule_276 n) x2 y57 σ61)) qy60.1 qy60.2) else fX9_tellRule_315 (fX9_tellRule_276 n) x2 y57 σ58)) qy57.1 qy57.2)) else fX9_tellRule_332 x2 σ))
set_option maxRecDepth 100000 in
set_option maxHeartbeats 4000000 in
theorem tX9_tellRule_276 {P : PS → Prop} : ∀ (n : Nat) (x2 : Int32) (x3 : Int32) (x4 : Int32) (σ : PS), hO (fX9_tellRule_276 n x2 x3 x4 σ) P → X g mX9_tellRule 4 0 0 (pV P) 276 [(0, .ref 132), (2, .int x2), (3, .int x3), (4, .int x4)] [] (HP σ) := by
  intro n
  induction n with
  | zero =>
    intro x2 x3 x4 σ h
    rw [fX9_tellRule_276] at h
    exact (hO_none h).elim
  | succ n ih =>
    intro x2 x3 x4 σ h
    rw [fX9_tellRule_276] at h
    refine X_iload_n 2 rfl (dk KX9_tellRule 154 rfl) ?_
    refine X_if_eq 332 (dk KX9_tellRule 155 rfl) (by decide) (fun hc => ?_) (fun hc => ?_)
    · have h := hO_t hc h
      refine X_sub [(0, .ref 132), (2, .int x2)] [0, 1] rfl ?_
      exact tX9_tellRule_332 x2 σ h
    · have h := hO_f hc h
      refine X_aload_n 0 rfl (dk KX9_tellRule 156 rfl) ?_
      refine Y_getI fX9_244 (Nat.le_of_ble_eq_true rfl) rfl (dk KX9_tellRule 157 rfl) ?_
      refine X_if_ne 332 (dk KX9_tellRule 158 rfl) (by decide) (fun hc => ?_) (fun hc => ?_)
      · have h := hO_f hc h
        refine X_sub [(0, .ref 132), (2, .int x2)] [0, 1] rfl ?_
        exact tX9_tellRule_332 x2 σ h
      · have h := hO_t hc h
        refine X_aload_n 0 rfl (dk KX9_tellRule 159 rfl) ?_
        refine X_iload 3 rfl (dk KX9_tellRule 160 rfl) ?_
        refine Y_callVV wX9_296 (Nat.le_of_ble_eq_true rfl) rfl [.int x4] [] rfl rfl (Nat.le_of_ble_eq_true rfl) (Nat.le_of_ble_eq_true rfl) (dk KX9_tellRule 161 rfl) (fun Pc h => okX9_relation _ _ Pc h) h (fun σ55 e56 h => ?_)
        try dsimp only at h
        refine X_aload_n 0 rfl (dk KX9_tellRule 162 rfl) ?_
        refine X_bipush (dk KX9_tellRule 163 rfl) 24 (by decide) ?_
        refine Y_callVI wX9_262 (Nat.le_of_ble_eq_true rfl) rfl [.int 24] [] rfl rfl (Nat.le_of_ble_eq_true rfl) (Nat.le_of_ble_eq_true rfl) (dk KX9_tellRule 164 rfl) (fun Pc h => okX9_is _ _ Pc h) h (fun y57 σ58 e59 h => ?_)
        try dsimp only at h
        refine X_istore [(4, .int y57), (0, .ref 132), (2, .int x2), (3, .int x3)] (dk KX9_tellRule 165 rfl) (by decide) rfl ?_
        refine X_iload 0 rfl (dk KX9_tellRule 166 rfl) ?_
        refine X_if_ne 315 (dk KX9_tellRule 167 rfl) (by decide) (fun hc => ?_) (fun hc => ?_)
        · have h := hO_f hc h
          refine X_sub [(0, .ref 132), (2, .int x2), (4, .int y57)] [1, 2, 0] rfl ?_
          exact tX9_tellRule_315 ih x2 y57 σ58 h
        · have h := hO_t hc h
          refine X_aload_n 1 rfl (dk KX9_tellRule 168 rfl) ?_
          refine X_bipush (dk KX9_tellRule 169 rfl) 25 (by decide) ?_
          refine Y_callVI wX9_262 (Nat.le_of_ble_eq_true rfl) rfl [.int 25] [] rfl rfl (Nat.le_of_ble_eq_true rfl) (Nat.le_of_ble_eq_true rfl) (dk KX9_tellRule 170 rfl) (fun Pc h => okX9_is _ _ Pc h) h (fun y60 σ61 e62 h => ?_)
          try dsimp only at h
          refine X_if_eq 319 (dk KX9_tellRule 171 rfl) (by decide) (fun hc => ?_) (fun hc => ?_)
          · have h := hO_t hc h
            refine X_iconst (dk KX9_tellRule 174 rfl) 0 (by decide) ?_
            refine X_sub [(0, .ref 132), (2, .int x2), (4, .int y57)] [1, 2, 0] rfl ?_
            exact tX9_tellRule_320 ih x2 y57 0 σ61 h
          · have h := hO_f hc h
            refine X_sub [(0, .ref 132), (2, .int x2), (4, .int y57)] [1, 2, 0] rfl ?_
            exact tX9_tellRule_315 ih x2 y57 σ61 h
def fX9_tellRule_273 (x2 : Int32) (x3 : Int32) (σ : PS) : Option (PS) := fX9_tellRule_276 FU x2 x3 1 σ
set_option maxRecDepth 100000 in
set_option maxHeartbeats 4000000 in
theorem tX9_tellRule_273 {P : PS → Prop} (x2 : Int32) (x3 : Int32) (σ : PS) (h : hO (fX9_tellRule_273 x2 x3 σ) P) : X g mX9_tellRule 4 0 0 (pV P) 273 [(0, .ref 132), (2, .int x2), (3, .int x3)] [] (HP σ) := by
  unfold fX9_tellRule_273 at h
  refine X_iconst (dk KX9_tellRule 152 rfl) 1 (by decide) ?_
  refine X_istore [(4, .int 1), (0, .ref 132), (2, .int x2), (3, .int x3)] (dk KX9_tellRule 153 rfl) (by decide) rfl ?_
  refine X_sub [(0, .ref 132), (2, .int x2), (3, .int x3), (4, .int 1)] [1, 2, 3, 0] rfl ?_
  exact tX9_tellRule_276 FU x2 x3 1 σ h
def fX9_tellRule_262 (x2 : Int32) (s0 : Int32) (σ : PS) : Option (PS) := (if s0 = 0 then fX9_tellRule_273 x2 s0 σ else (fX9_must 21 σ).bind (fun σ52 => fX9_tellRule_273 x2 s0 σ52))
set_option maxRecDepth 100000 in
set_option maxHeartbeats 4000000 in
theorem tX9_tellRule_262 {P : PS → Prop} (x2 : Int32) (s0 : Int32) (σ : PS) (h : hO (fX9_tellRule_262 x2 s0 σ) P) : X g mX9_tellRule 4 0 0 (pV P) 262 [(0, .ref 132), (2, .int x2)] [.int s0] (HP σ) := by
  unfold fX9_tellRule_262 at h
  refine X_istore_n [(3, .int s0), (0, .ref 132), (2, .int x2)] (dk KX9_tellRule 146 rfl) (by decide) rfl ?_
  refine X_iload_n 0 rfl (dk KX9_tellRule 147 rfl) ?_
  refine X_if_eq 273 (dk KX9_tellRule 148 rfl) (by decide) (fun hc => ?_) (fun hc => ?_)
  · have h := hO_t hc h
    refine X_sub [(0, .ref 132), (2, .int x2), (3, .int s0)] [1, 2, 0] rfl ?_
    exact tX9_tellRule_273 x2 s0 σ h
  · have h := hO_f hc h
    refine X_aload_n 1 rfl (dk KX9_tellRule 149 rfl) ?_
    refine X_bipush (dk KX9_tellRule 150 rfl) 21 (by decide) ?_
    refine Y_callVV wX9_286 (Nat.le_of_ble_eq_true rfl) rfl [.int 21] [] rfl rfl (Nat.le_of_ble_eq_true rfl) (Nat.le_of_ble_eq_true rfl) (dk KX9_tellRule 151 rfl) (fun Pc h => okX9_must _ _ Pc h) h (fun σ52 e53 h => ?_)
    try dsimp only at h
    refine X_sub [(0, .ref 132), (2, .int x2), (3, .int s0)] [1, 2, 0] rfl ?_
    exact tX9_tellRule_273 x2 s0 σ52 h
def fX9_tellRule_257 (x2 : Int32) (σ : PS) : Option (PS) := fX9_tellRule_262 x2 1 σ
set_option maxRecDepth 100000 in
set_option maxHeartbeats 4000000 in
theorem tX9_tellRule_257 {P : PS → Prop} (x2 : Int32) (σ : PS) (h : hO (fX9_tellRule_257 x2 σ) P) : X g mX9_tellRule 4 0 0 (pV P) 257 [(0, .ref 132), (2, .int x2)] [] (HP σ) := by
  unfold fX9_tellRule_257 at h
  refine X_iconst (dk KX9_tellRule 143 rfl) 1 (by decide) ?_
  refine X_goto 262 (dk KX9_tellRule 144 rfl) (by decide) ?_
  exact tX9_tellRule_262 x2 1 σ h
def fX9_tellRule_213 (x2 : Int32) (σ : PS) : Option (PS) := gd (inb x2 40) (gd (inb (gi (sI σ 144 (x2 : Int32).toNatClampNeg (gi σ 132 33)) 132 19) 2) (gd (inb x2 40) (gd (inb x2 40) ((if (gi (sI (sI σ 144 (x2 : Int32).toNatClampNeg (gi σ 132 33)) 145 (x2 : Int32).toNatClampNeg (gi (sI σ 144 (x2 : Int32).toNatClampNeg (gi σ 132 33)) 147 ((gi (sI σ 144 (x2 : Int32).toNatClampNeg (gi σ 132 33)) 132 19) : Int32).toNatClampNeg)) 141 (x2 : Int32).toNatClampNeg) = 2 then fX9_tellRule_257 x2 (sI (sI σ 144 (x2 : Int32).toNatClampNeg (gi σ 132 33)) 145 (x2 : Int32).toNatClampNeg (gi (sI σ 144 (x2 : Int32).toNatClampNeg (gi σ 132 33)) 147 ((gi (sI σ 144 (x2 : Int32).toNatClampNeg (gi σ 132 33)) 132 19) : Int32).toNatClampNeg)) else (fX9_is 21 (sI (sI σ 144 (x2 : Int32).toNatClampNeg (gi σ 132 33)) 145 (x2 : Int32).toNatClampNeg (gi (sI σ 144 (x2 : Int32).toNatClampNeg (gi σ 132 33)) 147 ((gi (sI σ 144 (x2 : Int32).toNatClampNeg (gi σ 132 33)) 132 19) : Int32).toNatClampNeg))).bind (fun qy48 => (fun (y48 : Int32) (σ49 : PS) => (if y48 = 0 then fX9_tellRule_262 x2 0 σ49 else fX9_tellRule_257 x2 σ49)) qy48.1 qy48.2))))))
set_option maxRecDepth 100000 in
set_option maxHeartbeats 4000000 in
theorem tX9_tellRule_213 {P : PS → Prop} (x2 : Int32) (σ : PS) (h : hO (fX9_tellRule_213 x2 σ) P) : X g mX9_tellRule 4 0 0 (pV P) 213 [(0, .ref 132), (2, .int x2)] [] (HP σ) := by
  unfold fX9_tellRule_213 at h
  refine X_aload_n 0 rfl (dk KX9_tellRule 118 rfl) ?_
  refine Y_getR 144 fX9_52 (Nat.le_of_ble_eq_true rfl) rfl rfl (dk KX9_tellRule 119 rfl) ?_
  refine X_iload_n 1 rfl (dk KX9_tellRule 120 rfl) ?_
  refine X_aload_n 0 rfl (dk KX9_tellRule 121 rfl) ?_
  refine Y_getI fX9_280 (Nat.le_of_ble_eq_true rfl) rfl (dk KX9_tellRule 122 rfl) ?_
  refine Y_iast (Nat.le_of_ble_eq_true rfl) rfl (dk KX9_tellRule 123 rfl) h (fun hi44 h => ?_)
  refine X_aload_n 0 rfl (dk KX9_tellRule 124 rfl) ?_
  refine Y_getR 145 fX9_55 (Nat.le_of_ble_eq_true rfl) rfl rfl (dk KX9_tellRule 125 rfl) ?_
  refine X_iload_n 1 rfl (dk KX9_tellRule 126 rfl) ?_
  refine X_aload_n 0 rfl (dk KX9_tellRule 127 rfl) ?_
  refine Y_getR 147 fX9_61 (Nat.le_of_ble_eq_true rfl) rfl rfl (dk KX9_tellRule 128 rfl) ?_
  refine X_aload_n 0 rfl (dk KX9_tellRule 129 rfl) ?_
  refine Y_getI fX9_277 (Nat.le_of_ble_eq_true rfl) rfl (dk KX9_tellRule 130 rfl) ?_
  refine Y_iald (Nat.le_of_ble_eq_true rfl) rfl (dk KX9_tellRule 131 rfl) h (fun hi45 h => ?_)
  refine Y_iast (Nat.le_of_ble_eq_true rfl) rfl (dk KX9_tellRule 132 rfl) h (fun hi46 h => ?_)
  refine X_aload_n 0 rfl (dk KX9_tellRule 133 rfl) ?_
  refine Y_getR 141 fX9_43 (Nat.le_of_ble_eq_true rfl) rfl rfl (dk KX9_tellRule 134 rfl) ?_
  refine X_iload_n 1 rfl (dk KX9_tellRule 135 rfl) ?_
  refine Y_iald (Nat.le_of_ble_eq_true rfl) rfl (dk KX9_tellRule 136 rfl) h (fun hi47 h => ?_)
  refine X_iconst (dk KX9_tellRule 137 rfl) 2 (by decide) ?_
  refine X_icmp_eq 257 (dk KX9_tellRule 138 rfl) (by decide) (fun hc => ?_) (fun hc => ?_)
  · have h := hO_t hc h
    exact tX9_tellRule_257 x2 (sI (sI σ 144 (x2 : Int32).toNatClampNeg (gi σ 132 33)) 145 (x2 : Int32).toNatClampNeg (gi (sI σ 144 (x2 : Int32).toNatClampNeg (gi σ 132 33)) 147 ((gi (sI σ 144 (x2 : Int32).toNatClampNeg (gi σ 132 33)) 132 19) : Int32).toNatClampNeg)) h
  · have h := hO_f hc h
    refine X_aload_n 0 rfl (dk KX9_tellRule 139 rfl) ?_
    refine X_bipush (dk KX9_tellRule 140 rfl) 21 (by decide) ?_
    refine Y_callVI wX9_262 (Nat.le_of_ble_eq_true rfl) rfl [.int 21] [] rfl rfl (Nat.le_of_ble_eq_true rfl) (Nat.le_of_ble_eq_true rfl) (dk KX9_tellRule 141 rfl) (fun Pc h => okX9_is _ _ Pc h) h (fun y48 σ49 e50 h => ?_)
    try dsimp only at h
    refine X_if_eq 261 (dk KX9_tellRule 142 rfl) (by decide) (fun hc => ?_) (fun hc => ?_)
    · have h := hO_t hc h
      refine X_iconst (dk KX9_tellRule 145 rfl) 0 (by decide) ?_
      exact tX9_tellRule_262 x2 0 σ49 h
    · have h := hO_f hc h
      exact tX9_tellRule_257 x2 σ49 h
def fX9_tellRule_189 (x2 : Int32) (σ : PS) : Option (PS) := gd (inb x2 40) (gd (inb x2 40) ((if 2 ≤ (gi (sI σ 143 (x2 : Int32).toNatClampNeg (gi σ 132 33)) 141 (x2 : Int32).toNatClampNeg) then fX9_tellRule_213 x2 (sI σ 143 (x2 : Int32).toNatClampNeg (gi σ 132 33)) else (fX9_expression (sI σ 143 (x2 : Int32).toNatClampNeg (gi σ 132 33))).bind (fun σ42 => fX9_tellRule_213 x2 σ42))))
set_option maxRecDepth 100000 in
set_option maxHeartbeats 4000000 in
theorem tX9_tellRule_189 {P : PS → Prop} (x2 : Int32) (σ : PS) (h : hO (fX9_tellRule_189 x2 σ) P) : X g mX9_tellRule 4 0 0 (pV P) 189 [(0, .ref 132), (2, .int x2)] [] (HP σ) := by
  unfold fX9_tellRule_189 at h
  refine X_aload_n 0 rfl (dk KX9_tellRule 104 rfl) ?_
  refine Y_getR 143 fX9_49 (Nat.le_of_ble_eq_true rfl) rfl rfl (dk KX9_tellRule 105 rfl) ?_
  refine X_iload_n 1 rfl (dk KX9_tellRule 106 rfl) ?_
  refine X_aload_n 0 rfl (dk KX9_tellRule 107 rfl) ?_
  refine Y_getI fX9_280 (Nat.le_of_ble_eq_true rfl) rfl (dk KX9_tellRule 108 rfl) ?_
  refine Y_iast (Nat.le_of_ble_eq_true rfl) rfl (dk KX9_tellRule 109 rfl) h (fun hi39 h => ?_)
  refine X_aload_n 0 rfl (dk KX9_tellRule 110 rfl) ?_
  refine Y_getR 141 fX9_43 (Nat.le_of_ble_eq_true rfl) rfl rfl (dk KX9_tellRule 111 rfl) ?_
  refine X_iload_n 1 rfl (dk KX9_tellRule 112 rfl) ?_
  refine Y_iald (Nat.le_of_ble_eq_true rfl) rfl (dk KX9_tellRule 113 rfl) h (fun hi40 h => ?_)
  refine X_iconst (dk KX9_tellRule 114 rfl) 2 (by decide) ?_
  refine X_icmp_ge 213 (dk KX9_tellRule 115 rfl) (by decide) (fun hc => ?_) (fun hc => ?_)
  · have h := hO_t hc h
    exact tX9_tellRule_213 x2 (sI σ 143 (x2 : Int32).toNatClampNeg (gi σ 132 33)) h
  · have h := hO_f hc h
    refine X_aload_n 0 rfl (dk KX9_tellRule 116 rfl) ?_
    refine Y_callVV wX9_293 (Nat.le_of_ble_eq_true rfl) rfl [] [] rfl rfl (Nat.le_of_ble_eq_true rfl) (Nat.le_of_ble_eq_true rfl) (dk KX9_tellRule 117 rfl) (fun Pc h => okX9_expression _ Pc h) h (fun σ42 e43 h => ?_)
    try dsimp only at h
    exact tX9_tellRule_213 x2 σ42 h
def fX9_tellRule_122 (x2 : Int32) (s1 : Int32) (s2 : Int32) (σ : PS) : Option (PS) := gd (inb s1 40) ((fX9_next (sI σ 141 (s1 : Int32).toNatClampNeg s2)).bind (fun σ26 => gd (inb x2 40) (gd (inb x2 40) ((if (gi (sI σ26 142 (x2 : Int32).toNatClampNeg (-1)) 141 (x2 : Int32).toNatClampNeg) ≤ 0 then fX9_tellRule_189 x2 (sI σ26 142 (x2 : Int32).toNatClampNeg (-1)) else (fX9_must 2 (sI σ26 142 (x2 : Int32).toNatClampNeg (-1))).bind (fun σ31 => (if (gi σ31 132 13) ≤ 0 then gd (inb (gi (sI σ26 142 (x2 : Int32).toNatClampNeg (-1)) 132 11) 403) (gd (inb x2 40) (gd (inb (gi (sI σ26 142 (x2 : Int32).toNatClampNeg (-1)) 132 11) 403) ((if (gi (sI σ31 142 (x2 : Int32).toNatClampNeg (gi σ31 137 ((gi (sI σ26 142 (x2 : Int32).toNatClampNeg (-1)) 132 11) : Int32).toNatClampNeg)) 137 ((gi (sI σ26 142 (x2 : Int32).toNatClampNeg (-1)) 132 11) : Int32).toNatClampNeg) ≤ 4 then fX9_tellRule_189 x2 (sI σ31 142 (x2 : Int32).toNatClampNeg (gi σ31 137 ((gi (sI σ26 142 (x2 : Int32).toNatClampNeg (-1)) 132 11) : Int32).toNatClampNeg)) else (fX9_wrong 5 (gi (sI σ26 142 (x2 : Int32).toNatClampNeg (-1)) 132 11) (sI σ31 142 (x2 : Int32).toNatClampNeg (gi σ31 137 ((gi (sI σ26 142 (x2 : Int32).toNatClampNeg (-1)) 132 11) : Int32).toNatClampNeg))).bind (fun σ37 => fX9_tellRule_189 x2 σ37))))) else some σ31)))))))
set_option maxRecDepth 100000 in
set_option maxHeartbeats 4000000 in
theorem tX9_tellRule_122 {P : PS → Prop} (x2 : Int32) (s1 : Int32) (s2 : Int32) (σ : PS) (h : hO (fX9_tellRule_122 x2 s1 s2 σ) P) : X g mX9_tellRule 4 0 0 (pV P) 122 [(0, .ref 132), (2, .int x2)] [.int s2, .int s1, .ref 141] (HP σ) := by
  unfold fX9_tellRule_122 at h
  refine Y_iast (Nat.le_of_ble_eq_true rfl) rfl (dk KX9_tellRule 63 rfl) h (fun hi24 h => ?_)
  refine X_aload_n 0 rfl (dk KX9_tellRule 64 rfl) ?_
  refine Y_callVV wX9_265 (Nat.le_of_ble_eq_true rfl) rfl [] [] rfl rfl (Nat.le_of_ble_eq_true rfl) (Nat.le_of_ble_eq_true rfl) (dk KX9_tellRule 65 rfl) (fun Pc h => okX9_next _ Pc h) h (fun σ26 e27 h => ?_)
  try dsimp only at h
  refine X_aload_n 0 rfl (dk KX9_tellRule 66 rfl) ?_
  refine Y_getR 142 fX9_46 (Nat.le_of_ble_eq_true rfl) rfl rfl (dk KX9_tellRule 67 rfl) ?_
  refine X_iload_n 1 rfl (dk KX9_tellRule 68 rfl) ?_
  refine X_iconst (dk KX9_tellRule 69 rfl) (-1) (by decide) ?_
  refine Y_iast (Nat.le_of_ble_eq_true rfl) rfl (dk KX9_tellRule 70 rfl) h (fun hi28 h => ?_)
  refine X_aload_n 0 rfl (dk KX9_tellRule 71 rfl) ?_
  refine Y_getR 141 fX9_43 (Nat.le_of_ble_eq_true rfl) rfl rfl (dk KX9_tellRule 72 rfl) ?_
  refine X_iload_n 1 rfl (dk KX9_tellRule 73 rfl) ?_
  refine Y_iald (Nat.le_of_ble_eq_true rfl) rfl (dk KX9_tellRule 74 rfl) h (fun hi29 h => ?_)
  refine X_if_le 189 (dk KX9_tellRule 75 rfl) (by decide) (fun hc => ?_) (fun hc => ?_)
  · have h := hO_t hc h
    exact tX9_tellRule_189 x2 (sI σ26 142 (x2 : Int32).toNatClampNeg (-1)) h
  · have h := hO_f hc h
    refine X_aload_n 0 rfl (dk KX9_tellRule 76 rfl) ?_
    refine Y_getI fX9_247 (Nat.le_of_ble_eq_true rfl) rfl (dk KX9_tellRule 77 rfl) ?_
    refine X_istore_n [(3, .int (gi (sI σ26 142 (x2 : Int32).toNatClampNeg (-1)) 132 11)), (0, .ref 132), (2, .int x2)] (dk KX9_tellRule 78 rfl) (by decide) rfl ?_
    refine X_aload_n 1 rfl (dk KX9_tellRule 79 rfl) ?_
    refine X_iconst (dk KX9_tellRule 80 rfl) 2 (by decide) ?_
    refine Y_callVV wX9_286 (Nat.le_of_ble_eq_true rfl) rfl [.int 2] [] rfl rfl (Nat.le_of_ble_eq_true rfl) (Nat.le_of_ble_eq_true rfl) (dk KX9_tellRule 81 rfl) (fun Pc h => okX9_must _ _ Pc h) h (fun σ31 e32 h => ?_)
    try dsimp only at h
    refine X_aload_n 1 rfl (dk KX9_tellRule 82 rfl) ?_
    refine Y_getI fX9_244 (Nat.le_of_ble_eq_true rfl) rfl (dk KX9_tellRule 83 rfl) ?_
    refine X_if_le 161 (dk KX9_tellRule 84 rfl) (by decide) (fun hc => ?_) (fun hc => ?_)
    · have h := hO_t hc h
      refine X_aload_n 1 rfl (dk KX9_tellRule 86 rfl) ?_
      refine Y_getR 142 fX9_46 (Nat.le_of_ble_eq_true rfl) rfl rfl (dk KX9_tellRule 87 rfl) ?_
      refine X_iload_n 2 rfl (dk KX9_tellRule 88 rfl) ?_
      refine X_aload_n 1 rfl (dk KX9_tellRule 89 rfl) ?_
      refine Y_getR 137 fX9_27 (Nat.le_of_ble_eq_true rfl) rfl rfl (dk KX9_tellRule 90 rfl) ?_
      refine X_iload_n 0 rfl (dk KX9_tellRule 91 rfl) ?_
      refine Y_iald (Nat.le_of_ble_eq_true rfl) rfl (dk KX9_tellRule 92 rfl) h (fun hi33 h => ?_)
      refine Y_iast (Nat.le_of_ble_eq_true rfl) rfl (dk KX9_tellRule 93 rfl) h (fun hi34 h => ?_)
      refine X_aload_n 1 rfl (dk KX9_tellRule 94 rfl) ?_
      refine Y_getR 137 fX9_27 (Nat.le_of_ble_eq_true rfl) rfl rfl (dk KX9_tellRule 95 rfl) ?_
      refine X_iload_n 0 rfl (dk KX9_tellRule 96 rfl) ?_
      refine Y_iald (Nat.le_of_ble_eq_true rfl) rfl (dk KX9_tellRule 97 rfl) h (fun hi35 h => ?_)
      refine X_iconst (dk KX9_tellRule 98 rfl) 4 (by decide) ?_
      refine X_icmp_le 189 (dk KX9_tellRule 99 rfl) (by decide) (fun hc => ?_) (fun hc => ?_)
      · have h := hO_t hc h
        refine X_sub [(0, .ref 132), (2, .int x2)] [1, 2] rfl ?_
        exact tX9_tellRule_189 x2 (sI σ31 142 (x2 : Int32).toNatClampNeg (gi σ31 137 ((gi (sI σ26 142 (x2 : Int32).toNatClampNeg (-1)) 132 11) : Int32).toNatClampNeg)) h
      · have h := hO_f hc h
        refine X_aload_n 1 rfl (dk KX9_tellRule 100 rfl) ?_
        refine X_iconst (dk KX9_tellRule 101 rfl) 5 (by decide) ?_
        refine X_iload_n 0 rfl (dk KX9_tellRule 102 rfl) ?_
        refine Y_callVV wX9_289 (Nat.le_of_ble_eq_true rfl) rfl [.int 5, .int (gi (sI σ26 142 (x2 : Int32).toNatClampNeg (-1)) 132 11)] [] rfl rfl (Nat.le_of_ble_eq_true rfl) (Nat.le_of_ble_eq_true rfl) (dk KX9_tellRule 103 rfl) (fun Pc h => okX9_wrong _ _ _ Pc h) h (fun σ37 e38 h => ?_)
        try dsimp only at h
        refine X_sub [(0, .ref 132), (2, .int x2)] [1, 2] rfl ?_
        exact tX9_tellRule_189 x2 σ37 h
    · have h := hO_f hc h
      exact Y_vret (dk KX9_tellRule 85 rfl) rfl h
def fX9_tellRule_64  (σ : PS) : Option (PS) := (if (gi σ 132 13) ≤ 0 then gd (inb (gi σ 132 19) 2) ((fX9_is 20 σ).bind (fun qy18 => (fun (y18 : Int32) (σ19 : PS) => (if y18 = 0 then (fX9_is 22 σ19).bind (fun qy21 => (fun (y21 : Int32) (σ22 : PS) => (if y21 = 0 then fX9_tellRule_122 ((20 * (gi σ 132 19)) + (gi σ 140 ((gi σ 132 19) : Int32).toNatClampNeg)) ((20 * (gi σ 132 19)) + (gi σ 140 ((gi σ 132 19) : Int32).toNatClampNeg)) 2 σ22 else fX9_tellRule_122 ((20 * (gi σ 132 19)) + (gi σ 140 ((gi σ 132 19) : Int32).toNatClampNeg)) ((20 * (gi σ 132 19)) + (gi σ 140 ((gi σ 132 19) : Int32).toNatClampNeg)) 1 σ22)) qy21.1 qy21.2) else fX9_tellRule_122 ((20 * (gi σ 132 19)) + (gi σ 140 ((gi σ 132 19) : Int32).toNatClampNeg)) ((20 * (gi σ 132 19)) + (gi σ 140 ((gi σ 132 19) : Int32).toNatClampNeg)) 0 σ19)) qy18.1 qy18.2)) else some σ)
set_option maxRecDepth 100000 in
set_option maxHeartbeats 4000000 in
theorem tX9_tellRule_64 {P : PS → Prop}  (σ : PS) (h : hO (fX9_tellRule_64  σ) P) : X g mX9_tellRule 4 0 0 (pV P) 64 [(0, .ref 132)] [] (HP σ) := by
  unfold fX9_tellRule_64 at h
  refine X_aload_n 0 rfl (dk KX9_tellRule 32 rfl) ?_
  refine Y_getI fX9_244 (Nat.le_of_ble_eq_true rfl) rfl (dk KX9_tellRule 33 rfl) ?_
  refine X_if_le 72 (dk KX9_tellRule 34 rfl) (by decide) (fun hc => ?_) (fun hc => ?_)
  · have h := hO_t hc h
    refine X_bipush (dk KX9_tellRule 36 rfl) 20 (by decide) ?_
    refine X_aload_n 0 rfl (dk KX9_tellRule 37 rfl) ?_
    refine Y_getI fX9_277 (Nat.le_of_ble_eq_true rfl) rfl (dk KX9_tellRule 38 rfl) ?_
    refine X_imul (dk KX9_tellRule 39 rfl) ?_
    refine X_aload_n 0 rfl (dk KX9_tellRule 40 rfl) ?_
    refine Y_getR 140 fX9_40 (Nat.le_of_ble_eq_true rfl) rfl rfl (dk KX9_tellRule 41 rfl) ?_
    refine X_aload_n 0 rfl (dk KX9_tellRule 42 rfl) ?_
    refine Y_getI fX9_277 (Nat.le_of_ble_eq_true rfl) rfl (dk KX9_tellRule 43 rfl) ?_
    refine Y_iald (Nat.le_of_ble_eq_true rfl) rfl (dk KX9_tellRule 44 rfl) h (fun hi17 h => ?_)
    refine X_iadd (dk KX9_tellRule 45 rfl) ?_
    refine X_istore_n [(2, .int ((20 * (gi σ 132 19)) + (gi σ 140 ((gi σ 132 19) : Int32).toNatClampNeg))), (0, .ref 132)] (dk KX9_tellRule 46 rfl) (by decide) rfl ?_
    refine X_aload_n 1 rfl (dk KX9_tellRule 47 rfl) ?_
    refine Y_getR 141 fX9_43 (Nat.le_of_ble_eq_true rfl) rfl rfl (dk KX9_tellRule 48 rfl) ?_
    refine X_iload_n 0 rfl (dk KX9_tellRule 49 rfl) ?_
    refine X_aload_n 1 rfl (dk KX9_tellRule 50 rfl) ?_
    refine X_bipush (dk KX9_tellRule 51 rfl) 20 (by decide) ?_
    refine Y_callVI wX9_262 (Nat.le_of_ble_eq_true rfl) rfl [.int 20] [.int ((20 * (gi σ 132 19)) + (gi σ 140 ((gi σ 132 19) : Int32).toNatClampNeg)), .ref 141] rfl rfl (Nat.le_of_ble_eq_true rfl) (Nat.le_of_ble_eq_true rfl) (dk KX9_tellRule 52 rfl) (fun Pc h => okX9_is _ _ Pc h) h (fun y18 σ19 e20 h => ?_)
    try dsimp only at h
    refine X_if_eq 108 (dk KX9_tellRule 53 rfl) (by decide) (fun hc => ?_) (fun hc => ?_)
    · have h := hO_t hc h
      refine X_aload_n 1 rfl (dk KX9_tellRule 56 rfl) ?_
      refine X_bipush (dk KX9_tellRule 57 rfl) 22 (by decide) ?_
      refine Y_callVI wX9_262 (Nat.le_of_ble_eq_true rfl) rfl [.int 22] [.int ((20 * (gi σ 132 19)) + (gi σ 140 ((gi σ 132 19) : Int32).toNatClampNeg)), .ref 141] rfl rfl (Nat.le_of_ble_eq_true rfl) (Nat.le_of_ble_eq_true rfl) (dk KX9_tellRule 58 rfl) (fun Pc h => okX9_is _ _ Pc h) h (fun y21 σ22 e23 h => ?_)
      try dsimp only at h
      refine X_if_eq 121 (dk KX9_tellRule 59 rfl) (by decide) (fun hc => ?_) (fun hc => ?_)
      · have h := hO_t hc h
        refine X_iconst (dk KX9_tellRule 62 rfl) 2 (by decide) ?_
        refine X_sub [(0, .ref 132), (2, .int ((20 * (gi σ 132 19)) + (gi σ 140 ((gi σ 132 19) : Int32).toNatClampNeg)))] [1, 0] rfl ?_
        exact tX9_tellRule_122 ((20 * (gi σ 132 19)) + (gi σ 140 ((gi σ 132 19) : Int32).toNatClampNeg)) ((20 * (gi σ 132 19)) + (gi σ 140 ((gi σ 132 19) : Int32).toNatClampNeg)) 2 σ22 h
      · have h := hO_f hc h
        refine X_iconst (dk KX9_tellRule 60 rfl) 1 (by decide) ?_
        refine X_goto 122 (dk KX9_tellRule 61 rfl) (by decide) ?_
        refine X_sub [(0, .ref 132), (2, .int ((20 * (gi σ 132 19)) + (gi σ 140 ((gi σ 132 19) : Int32).toNatClampNeg)))] [1, 0] rfl ?_
        exact tX9_tellRule_122 ((20 * (gi σ 132 19)) + (gi σ 140 ((gi σ 132 19) : Int32).toNatClampNeg)) ((20 * (gi σ 132 19)) + (gi σ 140 ((gi σ 132 19) : Int32).toNatClampNeg)) 1 σ22 h
    · have h := hO_f hc h
      refine X_iconst (dk KX9_tellRule 54 rfl) 0 (by decide) ?_
      refine X_goto 122 (dk KX9_tellRule 55 rfl) (by decide) ?_
      refine X_sub [(0, .ref 132), (2, .int ((20 * (gi σ 132 19)) + (gi σ 140 ((gi σ 132 19) : Int32).toNatClampNeg)))] [1, 0] rfl ?_
      exact tX9_tellRule_122 ((20 * (gi σ 132 19)) + (gi σ 140 ((gi σ 132 19) : Int32).toNatClampNeg)) ((20 * (gi σ 132 19)) + (gi σ 140 ((gi σ 132 19) : Int32).toNatClampNeg)) 0 σ19 h
  · have h := hO_f hc h
    exact Y_vret (dk KX9_tellRule 35 rfl) rfl h
def fX9_tellRule_32 (s0 : Int32) (σ : PS) : Option (PS) := (if s0 = 0 then (fX9_fail 1 σ).bind (fun σ15 => fX9_tellRule_64 σ15) else gd (inb (gi σ 132 19) 2) ((if (gi σ 140 ((gi σ 132 19) : Int32).toNatClampNeg) = 20 then (fX9_fail 2 σ).bind (fun σ12 => fX9_tellRule_64 σ12) else fX9_tellRule_64 σ)))
set_option maxRecDepth 100000 in
set_option maxHeartbeats 4000000 in
theorem tX9_tellRule_32 {P : PS → Prop} (s0 : Int32) (σ : PS) (h : hO (fX9_tellRule_32 s0 σ) P) : X g mX9_tellRule 4 0 0 (pV P) 32 [(0, .ref 132)] [.int s0] (HP σ) := by
  unfold fX9_tellRule_32 at h
  refine X_istore_n [(1, .int s0), (0, .ref 132)] (dk KX9_tellRule 15 rfl) (by decide) rfl ?_
  refine X_iload_n 0 rfl (dk KX9_tellRule 16 rfl) ?_
  refine X_if_ne 45 (dk KX9_tellRule 17 rfl) (by decide) (fun hc => ?_) (fun hc => ?_)
  · have h := hO_f hc h
    refine X_aload_n 1 rfl (dk KX9_tellRule 22 rfl) ?_
    refine Y_getR 140 fX9_40 (Nat.le_of_ble_eq_true rfl) rfl rfl (dk KX9_tellRule 23 rfl) ?_
    refine X_aload_n 1 rfl (dk KX9_tellRule 24 rfl) ?_
    refine Y_getI fX9_277 (Nat.le_of_ble_eq_true rfl) rfl (dk KX9_tellRule 25 rfl) ?_
    refine Y_iald (Nat.le_of_ble_eq_true rfl) rfl (dk KX9_tellRule 26 rfl) h (fun hi10 h => ?_)
    refine X_bipush (dk KX9_tellRule 27 rfl) 20 (by decide) ?_
    refine X_icmp_ne 64 (dk KX9_tellRule 28 rfl) (by decide) (fun hc => ?_) (fun hc => ?_)
    · have h := hO_f hc h
      refine X_sub [(0, .ref 132)] [1] rfl ?_
      exact tX9_tellRule_64 σ h
    · have h := hO_t hc h
      refine X_aload_n 1 rfl (dk KX9_tellRule 29 rfl) ?_
      refine X_iconst (dk KX9_tellRule 30 rfl) 2 (by decide) ?_
      refine Y_callVV wX9_259 (Nat.le_of_ble_eq_true rfl) rfl [.int 2] [] rfl rfl (Nat.le_of_ble_eq_true rfl) (Nat.le_of_ble_eq_true rfl) (dk KX9_tellRule 31 rfl) (fun Pc h => okX9_fail _ _ Pc h) h (fun σ12 e13 h => ?_)
      try dsimp only at h
      refine X_sub [(0, .ref 132)] [1] rfl ?_
      exact tX9_tellRule_64 σ12 h
  · have h := hO_t hc h
    refine X_aload_n 1 rfl (dk KX9_tellRule 18 rfl) ?_
    refine X_iconst (dk KX9_tellRule 19 rfl) 1 (by decide) ?_
    refine Y_callVV wX9_259 (Nat.le_of_ble_eq_true rfl) rfl [.int 1] [] rfl rfl (Nat.le_of_ble_eq_true rfl) (Nat.le_of_ble_eq_true rfl) (dk KX9_tellRule 20 rfl) (fun Pc h => okX9_fail _ _ Pc h) h (fun σ15 e16 h => ?_)
    try dsimp only at h
    refine X_goto 64 (dk KX9_tellRule 21 rfl) (by decide) ?_
    refine X_sub [(0, .ref 132)] [1] rfl ?_
    exact tX9_tellRule_64 σ15 h
def fX9_tellRule_27  (σ : PS) : Option (PS) := fX9_tellRule_32 1 σ
set_option maxRecDepth 100000 in
set_option maxHeartbeats 4000000 in
theorem tX9_tellRule_27 {P : PS → Prop}  (σ : PS) (h : hO (fX9_tellRule_27  σ) P) : X g mX9_tellRule 4 0 0 (pV P) 27 [(0, .ref 132)] [] (HP σ) := by
  unfold fX9_tellRule_27 at h
  refine X_iconst (dk KX9_tellRule 12 rfl) 1 (by decide) ?_
  refine X_goto 32 (dk KX9_tellRule 13 rfl) (by decide) ?_
  exact tX9_tellRule_32 1 σ h
def fX9_tellRule  (σ : PS) : Option (PS) := (fX9_is 20 σ).bind (fun qy1 => (fun (y1 : Int32) (σ2 : PS) => (if y1 = 0 then (fX9_is 22 σ2).bind (fun qy4 => (fun (y4 : Int32) (σ5 : PS) => (if y4 = 0 then (fX9_is 23 σ5).bind (fun qy7 => (fun (y7 : Int32) (σ8 : PS) => (if y7 = 0 then fX9_tellRule_32 0 σ8 else fX9_tellRule_27 σ8)) qy7.1 qy7.2) else fX9_tellRule_27 σ5)) qy4.1 qy4.2) else fX9_tellRule_27 σ2)) qy1.1 qy1.2)
set_option maxRecDepth 100000 in
set_option maxHeartbeats 4000000 in
theorem okX9_tellRule  (σ : PS) (P : PS → Prop) (h : hO (fX9_tellRule  σ) P) : CON g mX9_tellRule 4 0 0 [.ref 132] (HP σ) (pV P) := by
  refine CON.of (by decide) (by simp [lg_sl, Value.category]) ?_
  show X g _ _ _ _ _ 0 [(0, .ref 132)] [] _
  unfold fX9_tellRule at h
  refine X_aload_n 0 rfl (dk KX9_tellRule 0 rfl) ?_
  refine X_bipush (dk KX9_tellRule 1 rfl) 20 (by decide) ?_
  refine Y_callVI wX9_262 (Nat.le_of_ble_eq_true rfl) rfl [.int 20] [] rfl rfl (Nat.le_of_ble_eq_true rfl) (Nat.le_of_ble_eq_true rfl) (dk KX9_tellRule 2 rfl) (fun Pc h => okX9_is _ _ Pc h) h (fun y1 σ2 e3 h => ?_)
  try dsimp only at h
  refine X_if_ne 27 (dk KX9_tellRule 3 rfl) (by decide) (fun hc => ?_) (fun hc => ?_)
  · have h := hO_f hc h
    exact tX9_tellRule_27 σ2 h
  · have h := hO_t hc h
    refine X_aload_n 0 rfl (dk KX9_tellRule 4 rfl) ?_
    refine X_bipush (dk KX9_tellRule 5 rfl) 22 (by decide) ?_
    refine Y_callVI wX9_262 (Nat.le_of_ble_eq_true rfl) rfl [.int 22] [] rfl rfl (Nat.le_of_ble_eq_true rfl) (Nat.le_of_ble_eq_true rfl) (dk KX9_tellRule 6 rfl) (fun Pc h => okX9_is _ _ Pc h) h (fun y4 σ5 e6 h => ?_)
    try dsimp only at h
    refine X_if_ne 27 (dk KX9_tellRule 7 rfl) (by decide) (fun hc => ?_) (fun hc => ?_)
    · have h := hO_f hc h
      exact tX9_tellRule_27 σ5 h
    · have h := hO_t hc h
      refine X_aload_n 0 rfl (dk KX9_tellRule 8 rfl) ?_
      refine X_bipush (dk KX9_tellRule 9 rfl) 23 (by decide) ?_
      refine Y_callVI wX9_262 (Nat.le_of_ble_eq_true rfl) rfl [.int 23] [] rfl rfl (Nat.le_of_ble_eq_true rfl) (Nat.le_of_ble_eq_true rfl) (dk KX9_tellRule 10 rfl) (fun Pc h => okX9_is _ _ Pc h) h (fun y7 σ8 e9 h => ?_)
      try dsimp only at h
      refine X_if_eq 31 (dk KX9_tellRule 11 rfl) (by decide) (fun hc => ?_) (fun hc => ?_)
      · have h := hO_t hc h
        refine X_iconst (dk KX9_tellRule 14 rfl) 0 (by decide) ?_
        exact tX9_tellRule_32 0 σ8 h
      · have h := hO_f hc h
        exact tX9_tellRule_27 σ8 h

def fX9_read_159 (s1 : Int32) (σ : PS) : Option (Int32 × PS) := (if (gi (sI σ 132 17 s1) 132 13) ≤ 0 then (if (gi (sI σ 132 17 s1) 132 15) ≤ 0 then some (0, (sI (sI (sI σ 132 17 s1) 132 18 (gi (sI σ 132 17 s1) 132 19)) 132 58 (-1))) else some ((gi (sI σ 132 17 s1) 132 15), (sI σ 132 17 s1))) else some ((gi (sI σ 132 17 s1) 132 13), (sI σ 132 17 s1)))
set_option maxRecDepth 100000 in
set_option maxHeartbeats 4000000 in
theorem tX9_read_159 {P : Int32 × PS → Prop} (s1 : Int32) (σ : PS) (h : hO (fX9_read_159 s1 σ) P) : X g mX9_read 5 0 0 (pI P) 159 [(0, .ref 132)] [.int s1, .ref 132] (HP σ) := by
  unfold fX9_read_159 at h
  refine Y_putI fX9_37 rfl (Nat.le_of_ble_eq_true rfl) rfl (dk KX9_read 85 rfl) ?_
  refine X_aload_n 0 rfl (dk KX9_read 86 rfl) ?_
  refine Y_getI fX9_244 (Nat.le_of_ble_eq_true rfl) rfl (dk KX9_read 87 rfl) ?_
  refine X_if_le 174 (dk KX9_read 88 rfl) (by decide) (fun hc => ?_) (fun hc => ?_)
  · have h := hO_t hc h
    refine X_aload_n 0 rfl (dk KX9_read 92 rfl) ?_
    refine Y_getI fX9_253 (Nat.le_of_ble_eq_true rfl) rfl (dk KX9_read 93 rfl) ?_
    refine X_if_le 186 (dk KX9_read 94 rfl) (by decide) (fun hc => ?_) (fun hc => ?_)
    · have h := hO_t hc h
      refine X_aload_n 0 rfl (dk KX9_read 98 rfl) ?_
      refine X_aload_n 0 rfl (dk KX9_read 99 rfl) ?_
      refine Y_getI fX9_277 (Nat.le_of_ble_eq_true rfl) rfl (dk KX9_read 100 rfl) ?_
      refine Y_putI fX9_274 rfl (Nat.le_of_ble_eq_true rfl) rfl (dk KX9_read 101 rfl) ?_
      refine X_aload_n 0 rfl (dk KX9_read 102 rfl) ?_
      refine X_iconst (dk KX9_read 103 rfl) (-1) (by decide) ?_
      refine Y_putI fX9_137 rfl (Nat.le_of_ble_eq_true rfl) rfl (dk KX9_read 104 rfl) ?_
      refine X_iconst (dk KX9_read 105 rfl) 0 (by decide) ?_
      exact Y_iret (dk KX9_read 106 rfl) rfl h
    · have h := hO_f hc h
      refine X_aload_n 0 rfl (dk KX9_read 95 rfl) ?_
      refine Y_getI fX9_253 (Nat.le_of_ble_eq_true rfl) rfl (dk KX9_read 96 rfl) ?_
      exact Y_iret (dk KX9_read 97 rfl) rfl h
  · have h := hO_f hc h
    refine X_aload_n 0 rfl (dk KX9_read 89 rfl) ?_
    refine Y_getI fX9_244 (Nat.le_of_ble_eq_true rfl) rfl (dk KX9_read 90 rfl) ?_
    exact Y_iret (dk KX9_read 91 rfl) rfl h
def fX9_read_129  (σ : PS) : Option (Int32 × PS) := (if (gi σ 132 13) ≤ 0 then (if (gi σ 132 15) ≤ 0 then fX9_read_159 (-1) σ else fX9_read_159 (gi σ 132 16) σ) else fX9_read_159 (gi σ 132 14) σ)
set_option maxRecDepth 100000 in
set_option maxHeartbeats 4000000 in
theorem tX9_read_129 {P : Int32 × PS → Prop}  (σ : PS) (h : hO (fX9_read_129  σ) P) : X g mX9_read 5 0 0 (pI P) 129 [(0, .ref 132)] [] (HP σ) := by
  unfold fX9_read_129 at h
  refine X_aload_n 0 rfl (dk KX9_read 71 rfl) ?_
  refine X_aload_n 0 rfl (dk KX9_read 72 rfl) ?_
  refine Y_getI fX9_244 (Nat.le_of_ble_eq_true rfl) rfl (dk KX9_read 73 rfl) ?_
  refine X_if_le 144 (dk KX9_read 74 rfl) (by decide) (fun hc => ?_) (fun hc => ?_)
  · have h := hO_t hc h
    refine X_aload_n 0 rfl (dk KX9_read 78 rfl) ?_
    refine Y_getI fX9_253 (Nat.le_of_ble_eq_true rfl) rfl (dk KX9_read 79 rfl) ?_
    refine X_if_le 158 (dk KX9_read 80 rfl) (by decide) (fun hc => ?_) (fun hc => ?_)
    · have h := hO_t hc h
      refine X_iconst (dk KX9_read 84 rfl) (-1) (by decide) ?_
      exact tX9_read_159 (-1) σ h
    · have h := hO_f hc h
      refine X_aload_n 0 rfl (dk KX9_read 81 rfl) ?_
      refine Y_getI fX9_256 (Nat.le_of_ble_eq_true rfl) rfl (dk KX9_read 82 rfl) ?_
      refine X_goto 159 (dk KX9_read 83 rfl) (by decide) ?_
      exact tX9_read_159 (gi σ 132 16) σ h
  · have h := hO_f hc h
    refine X_aload_n 0 rfl (dk KX9_read 75 rfl) ?_
    refine Y_getI fX9_250 (Nat.le_of_ble_eq_true rfl) rfl (dk KX9_read 76 rfl) ?_
    refine X_goto 159 (dk KX9_read 77 rfl) (by decide) ?_
    exact tX9_read_159 (gi σ 132 14) σ h
def fX9_read_107 : Nat → PS → Option (Int32 × PS)
  | 0, _ => none
  | n + 1, σ => (if (gi σ 132 13) = 0 then (fX9_is 0 σ).bind (fun qy8 => (fun (y8 : Int32) (σ9 : PS) => (if y8 = 0 then (fX9_tellRule σ9).bind (fun σ12 => fX9_read_107 n σ12) else fX9_read_129 σ9)) qy8.1 qy8.2) else fX9_read_129 σ)
set_option maxRecDepth 100000 in
set_option maxHeartbeats 4000000 in
theorem tX9_read_107 {P : Int32 × PS → Prop} : ∀ (n : Nat)  (σ : PS), hO (fX9_read_107 n  σ) P → X g mX9_read 5 0 0 (pI P) 107 [(0, .ref 132)] [] (HP σ) := by
  intro n
  induction n with
  | zero =>
    intro  σ h
    rw [fX9_read_107] at h
    exact (hO_none h).elim
  | succ n ih =>
    intro  σ h
    rw [fX9_read_107] at h
    refine X_aload_n 0 rfl (dk KX9_read 61 rfl) ?_
    refine Y_getI fX9_244 (Nat.le_of_ble_eq_true rfl) rfl (dk KX9_read 62 rfl) ?_
    refine X_if_ne 129 (dk KX9_read 63 rfl) (by decide) (fun hc => ?_) (fun hc => ?_)
    · have h := hO_f hc h
      exact tX9_read_129 σ h
    · have h := hO_t hc h
      refine X_aload_n 0 rfl (dk KX9_read 64 rfl) ?_
      refine X_iconst (dk KX9_read 65 rfl) 0 (by decide) ?_
      refine Y_callVI wX9_262 (Nat.le_of_ble_eq_true rfl) rfl [.int 0] [] rfl rfl (Nat.le_of_ble_eq_true rfl) (Nat.le_of_ble_eq_true rfl) (dk KX9_read 66 rfl) (fun Pc h => okX9_is _ _ Pc h) h (fun y8 σ9 e10 h => ?_)
      try dsimp only at h
      refine X_if_ne 129 (dk KX9_read 67 rfl) (by decide) (fun hc => ?_) (fun hc => ?_)
      · have h := hO_f hc h
        exact tX9_read_129 σ9 h
      · have h := hO_t hc h
        refine X_aload_n 0 rfl (dk KX9_read 68 rfl) ?_
        refine Y_callVV wX9_283 (Nat.le_of_ble_eq_true rfl) rfl [] [] rfl rfl (Nat.le_of_ble_eq_true rfl) (Nat.le_of_ble_eq_true rfl) (dk KX9_read 69 rfl) (fun Pc h => okX9_tellRule _ Pc h) h (fun σ12 e13 h => ?_)
        try dsimp only at h
        refine X_goto 107 (dk KX9_read 70 rfl) (by decide) ?_
        exact ih σ12 h
def fX9_read_10 : Nat → Int32 → PS → Option (Int32 × PS)
  | 0, _, _ => none
  | n + 1, x1, σ => (if (gi σ 132 4) ≤ x1 then (fX9_cut (sI σ 132 2 0)).bind (fun σ2 => gd (inb (gi (sI (sI (sI (sI (sI σ2 132 11 0) 132 12 0) 132 13 0) 132 15 0) 132 19 (1 - (gi (sI (sI (sI (sI σ2 132 11 0) 132 12 0) 132 13 0) 132 15 0) 132 18))) 132 19) 2) (gd (inb (gi (sI (sI (sI (sI (sI (sI σ2 132 11 0) 132 12 0) 132 13 0) 132 15 0) 132 19 (1 - (gi (sI (sI (sI (sI σ2 132 11 0) 132 12 0) 132 13 0) 132 15 0) 132 18))) 140 ((gi (sI (sI (sI (sI (sI σ2 132 11 0) 132 12 0) 132 13 0) 132 15 0) 132 19 (1 - (gi (sI (sI (sI (sI σ2 132 11 0) 132 12 0) 132 13 0) 132 15 0) 132 18))) 132 19) : Int32).toNatClampNeg 0) 132 19) 2) (fX9_read_107 FU (sI (sI (sI (sI (sI (sI (sI (sI σ2 132 11 0) 132 12 0) 132 13 0) 132 15 0) 132 19 (1 - (gi (sI (sI (sI (sI σ2 132 11 0) 132 12 0) 132 13 0) 132 15 0) 132 18))) 140 ((gi (sI (sI (sI (sI (sI σ2 132 11 0) 132 12 0) 132 13 0) 132 15 0) 132 19 (1 - (gi (sI (sI (sI (sI σ2 132 11 0) 132 12 0) 132 13 0) 132 15 0) 132 18))) 132 19) : Int32).toNatClampNeg 0) 147 ((gi (sI (sI (sI (sI (sI (sI σ2 132 11 0) 132 12 0) 132 13 0) 132 15 0) 132 19 (1 - (gi (sI (sI (sI (sI σ2 132 11 0) 132 12 0) 132 13 0) 132 15 0) 132 18))) 140 ((gi (sI (sI (sI (sI (sI σ2 132 11 0) 132 12 0) 132 13 0) 132 15 0) 132 19 (1 - (gi (sI (sI (sI (sI σ2 132 11 0) 132 12 0) 132 13 0) 132 15 0) 132 18))) 132 19) : Int32).toNatClampNeg 0) 132 19) : Int32).toNatClampNeg 0) 132 33 (500 * (gi (sI (sI (sI (sI (sI (sI (sI σ2 132 11 0) 132 12 0) 132 13 0) 132 15 0) 132 19 (1 - (gi (sI (sI (sI (sI σ2 132 11 0) 132 12 0) 132 13 0) 132 15 0) 132 18))) 140 ((gi (sI (sI (sI (sI (sI σ2 132 11 0) 132 12 0) 132 13 0) 132 15 0) 132 19 (1 - (gi (sI (sI (sI (sI σ2 132 11 0) 132 12 0) 132 13 0) 132 15 0) 132 18))) 132 19) : Int32).toNatClampNeg 0) 147 ((gi (sI (sI (sI (sI (sI (sI σ2 132 11 0) 132 12 0) 132 13 0) 132 15 0) 132 19 (1 - (gi (sI (sI (sI (sI σ2 132 11 0) 132 12 0) 132 13 0) 132 15 0) 132 18))) 140 ((gi (sI (sI (sI (sI (sI σ2 132 11 0) 132 12 0) 132 13 0) 132 15 0) 132 19 (1 - (gi (sI (sI (sI (sI σ2 132 11 0) 132 12 0) 132 13 0) 132 15 0) 132 18))) 132 19) : Int32).toNatClampNeg 0) 132 19) : Int32).toNatClampNeg 0) 132 19)))))) else gd (inb x1 2000) (gd (inb x1 2000) (fX9_read_10 n (x1 + 1) (sI σ 134 (x1 : Int32).toNatClampNeg (vp_nar .byte (gi σ 133 (x1 : Int32).toNatClampNeg))))))
set_option maxRecDepth 100000 in
set_option maxHeartbeats 4000000 in
theorem tX9_read_10 {P : Int32 × PS → Prop} : ∀ (n : Nat) (x1 : Int32) (σ : PS), hO (fX9_read_10 n x1 σ) P → X g mX9_read 5 0 0 (pI P) 10 [(0, .ref 132), (1, .int x1)] [] (HP σ) := by
  intro n
  induction n with
  | zero =>
    intro x1 σ h
    rw [fX9_read_10] at h
    exact (hO_none h).elim
  | succ n ih =>
    intro x1 σ h
    rw [fX9_read_10] at h
    refine X_iload_n 1 rfl (dk KX9_read 6 rfl) ?_
    refine X_aload_n 0 rfl (dk KX9_read 7 rfl) ?_
    refine Y_getI fX9_214 (Nat.le_of_ble_eq_true rfl) rfl (dk KX9_read 8 rfl) ?_
    refine X_icmp_ge 36 (dk KX9_read 9 rfl) (by decide) (fun hc => ?_) (fun hc => ?_)
    · have h := hO_t hc h
      refine X_aload_n 0 rfl (dk KX9_read 20 rfl) ?_
      refine X_iconst (dk KX9_read 21 rfl) 0 (by decide) ?_
      refine Y_putI fX9_207 rfl (Nat.le_of_ble_eq_true rfl) rfl (dk KX9_read 22 rfl) ?_
      refine X_aload_n 0 rfl (dk KX9_read 23 rfl) ?_
      refine Y_callVV wX9_268 (Nat.le_of_ble_eq_true rfl) rfl [] [] rfl rfl (Nat.le_of_ble_eq_true rfl) (Nat.le_of_ble_eq_true rfl) (dk KX9_read 24 rfl) (fun Pc h => okX9_cut _ Pc h) h (fun σ2 e3 h => ?_)
      try dsimp only at h
      refine X_aload_n 0 rfl (dk KX9_read 25 rfl) ?_
      refine X_iconst (dk KX9_read 26 rfl) 0 (by decide) ?_
      refine Y_putI fX9_247 rfl (Nat.le_of_ble_eq_true rfl) rfl (dk KX9_read 27 rfl) ?_
      refine X_aload_n 0 rfl (dk KX9_read 28 rfl) ?_
      refine X_iconst (dk KX9_read 29 rfl) 0 (by decide) ?_
      refine Y_putI fX9_271 rfl (Nat.le_of_ble_eq_true rfl) rfl (dk KX9_read 30 rfl) ?_
      refine X_aload_n 0 rfl (dk KX9_read 31 rfl) ?_
      refine X_iconst (dk KX9_read 32 rfl) 0 (by decide) ?_
      refine Y_putI fX9_244 rfl (Nat.le_of_ble_eq_true rfl) rfl (dk KX9_read 33 rfl) ?_
      refine X_aload_n 0 rfl (dk KX9_read 34 rfl) ?_
      refine X_iconst (dk KX9_read 35 rfl) 0 (by decide) ?_
      refine Y_putI fX9_253 rfl (Nat.le_of_ble_eq_true rfl) rfl (dk KX9_read 36 rfl) ?_
      refine X_aload_n 0 rfl (dk KX9_read 37 rfl) ?_
      refine X_iconst (dk KX9_read 38 rfl) 1 (by decide) ?_
      refine X_aload_n 0 rfl (dk KX9_read 39 rfl) ?_
      refine Y_getI fX9_274 (Nat.le_of_ble_eq_true rfl) rfl (dk KX9_read 40 rfl) ?_
      refine X_isub (dk KX9_read 41 rfl) ?_
      refine Y_putI fX9_277 rfl (Nat.le_of_ble_eq_true rfl) rfl (dk KX9_read 42 rfl) ?_
      refine X_aload_n 0 rfl (dk KX9_read 43 rfl) ?_
      refine Y_getR 140 fX9_40 (Nat.le_of_ble_eq_true rfl) rfl rfl (dk KX9_read 44 rfl) ?_
      refine X_aload_n 0 rfl (dk KX9_read 45 rfl) ?_
      refine Y_getI fX9_277 (Nat.le_of_ble_eq_true rfl) rfl (dk KX9_read 46 rfl) ?_
      refine X_iconst (dk KX9_read 47 rfl) 0 (by decide) ?_
      refine Y_iast (Nat.le_of_ble_eq_true rfl) rfl (dk KX9_read 48 rfl) h (fun hi4 h => ?_)
      refine X_aload_n 0 rfl (dk KX9_read 49 rfl) ?_
      refine Y_getR 147 fX9_61 (Nat.le_of_ble_eq_true rfl) rfl rfl (dk KX9_read 50 rfl) ?_
      refine X_aload_n 0 rfl (dk KX9_read 51 rfl) ?_
      refine Y_getI fX9_277 (Nat.le_of_ble_eq_true rfl) rfl (dk KX9_read 52 rfl) ?_
      refine X_iconst (dk KX9_read 53 rfl) 0 (by decide) ?_
      refine Y_iast (Nat.le_of_ble_eq_true rfl) rfl (dk KX9_read 54 rfl) h (fun hi5 h => ?_)
      refine X_aload_n 0 rfl (dk KX9_read 55 rfl) ?_
      refine X_sipush (dk KX9_read 56 rfl) 500 (by decide) ?_
      refine X_aload_n 0 rfl (dk KX9_read 57 rfl) ?_
      refine Y_getI fX9_277 (Nat.le_of_ble_eq_true rfl) rfl (dk KX9_read 58 rfl) ?_
      refine X_imul (dk KX9_read 59 rfl) ?_
      refine Y_putI fX9_280 rfl (Nat.le_of_ble_eq_true rfl) rfl (dk KX9_read 60 rfl) ?_
      refine X_sub [(0, .ref 132)] [0] rfl ?_
      exact tX9_read_107 FU (sI (sI (sI (sI (sI (sI (sI (sI σ2 132 11 0) 132 12 0) 132 13 0) 132 15 0) 132 19 (1 - (gi (sI (sI (sI (sI σ2 132 11 0) 132 12 0) 132 13 0) 132 15 0) 132 18))) 140 ((gi (sI (sI (sI (sI (sI σ2 132 11 0) 132 12 0) 132 13 0) 132 15 0) 132 19 (1 - (gi (sI (sI (sI (sI σ2 132 11 0) 132 12 0) 132 13 0) 132 15 0) 132 18))) 132 19) : Int32).toNatClampNeg 0) 147 ((gi (sI (sI (sI (sI (sI (sI σ2 132 11 0) 132 12 0) 132 13 0) 132 15 0) 132 19 (1 - (gi (sI (sI (sI (sI σ2 132 11 0) 132 12 0) 132 13 0) 132 15 0) 132 18))) 140 ((gi (sI (sI (sI (sI (sI σ2 132 11 0) 132 12 0) 132 13 0) 132 15 0) 132 19 (1 - (gi (sI (sI (sI (sI σ2 132 11 0) 132 12 0) 132 13 0) 132 15 0) 132 18))) 132 19) : Int32).toNatClampNeg 0) 132 19) : Int32).toNatClampNeg 0) 132 33 (500 * (gi (sI (sI (sI (sI (sI (sI (sI σ2 132 11 0) 132 12 0) 132 13 0) 132 15 0) 132 19 (1 - (gi (sI (sI (sI (sI σ2 132 11 0) 132 12 0) 132 13 0) 132 15 0) 132 18))) 140 ((gi (sI (sI (sI (sI (sI σ2 132 11 0) 132 12 0) 132 13 0) 132 15 0) 132 19 (1 - (gi (sI (sI (sI (sI σ2 132 11 0) 132 12 0) 132 13 0) 132 15 0) 132 18))) 132 19) : Int32).toNatClampNeg 0) 147 ((gi (sI (sI (sI (sI (sI (sI σ2 132 11 0) 132 12 0) 132 13 0) 132 15 0) 132 19 (1 - (gi (sI (sI (sI (sI σ2 132 11 0) 132 12 0) 132 13 0) 132 15 0) 132 18))) 140 ((gi (sI (sI (sI (sI (sI σ2 132 11 0) 132 12 0) 132 13 0) 132 15 0) 132 19 (1 - (gi (sI (sI (sI (sI σ2 132 11 0) 132 12 0) 132 13 0) 132 15 0) 132 18))) 132 19) : Int32).toNatClampNeg 0) 132 19) : Int32).toNatClampNeg 0) 132 19))) h
    · have h := hO_f hc h
      refine X_aload_n 0 rfl (dk KX9_read 10 rfl) ?_
      refine Y_getR 134 fX9_17 (Nat.le_of_ble_eq_true rfl) rfl rfl (dk KX9_read 11 rfl) ?_
      refine X_iload_n 1 rfl (dk KX9_read 12 rfl) ?_
      refine X_aload_n 0 rfl (dk KX9_read 13 rfl) ?_
      refine Y_getR 133 fX9_13 (Nat.le_of_ble_eq_true rfl) rfl rfl (dk KX9_read 14 rfl) ?_
      refine X_iload_n 1 rfl (dk KX9_read 15 rfl) ?_
      refine Y_bald (Nat.le_of_ble_eq_true rfl) rfl (dk KX9_read 16 rfl) h (fun hi6 h => ?_)
      refine Y_bast (Nat.le_of_ble_eq_true rfl) rfl (dk KX9_read 17 rfl) h (fun hi7 h => ?_)
      refine X_iinc 1 1 [(1, .int (x1 + 1)), (0, .ref 132)] (dk KX9_read 18 rfl) rfl (by decide) (by decide) rfl ?_
      refine X_goto 10 (dk KX9_read 19 rfl) (by decide) ?_
      refine X_sub [(0, .ref 132), (1, .int (x1 + 1))] [1, 0] rfl ?_
      exact ih (x1 + 1) (sI σ 134 (x1 : Int32).toNatClampNeg (vp_nar .byte (gi σ 133 (x1 : Int32).toNatClampNeg))) h
def fX9_read  (σ : PS) : Option (Int32 × PS) := fX9_read_10 FU 0 (sI σ 132 4 (gi σ 132 2))
set_option maxRecDepth 100000 in
set_option maxHeartbeats 4000000 in
theorem okX9_read  (σ : PS) (P : Int32 × PS → Prop) (h : hO (fX9_read  σ) P) : CON g mX9_read 5 0 0 [.ref 132] (HP σ) (pI P) := by
  refine CON.of (by decide) (by simp [lg_sl, Value.category]) ?_
  show X g _ _ _ _ _ 0 [(0, .ref 132)] [] _
  unfold fX9_read at h
  refine X_aload_n 0 rfl (dk KX9_read 0 rfl) ?_
  refine X_aload_n 0 rfl (dk KX9_read 1 rfl) ?_
  refine Y_getI fX9_207 (Nat.le_of_ble_eq_true rfl) rfl (dk KX9_read 2 rfl) ?_
  refine Y_putI fX9_214 rfl (Nat.le_of_ble_eq_true rfl) rfl (dk KX9_read 3 rfl) ?_
  refine X_iconst (dk KX9_read 4 rfl) 0 (by decide) ?_
  refine X_istore_n [(1, .int 0), (0, .ref 132)] (dk KX9_read 5 rfl) (by decide) rfl ?_
  refine X_sub [(0, .ref 132), (1, .int 0)] [1, 0] rfl ?_
  exact tX9_read_10 FU 0 (sI σ 132 4 (gi σ 132 2)) h

def fX9_place  (σ : PS) : Option (Int32 × PS) := some ((gi σ 132 17), σ)
set_option maxRecDepth 100000 in
set_option maxHeartbeats 4000000 in
theorem okX9_place  (σ : PS) (P : Int32 × PS → Prop) (h : hO (fX9_place  σ) P) : CON g mX9_place 0 0 0 [.ref 132] (HP σ) (pI P) := by
  refine CON.of (by decide) (by simp [lg_sl, Value.category]) ?_
  show X g _ _ _ _ _ 0 [(0, .ref 132)] [] _
  unfold fX9_place at h
  refine X_aload_n 0 rfl (dk KX9_place 0 rfl) ?_
  refine Y_getI fX9_37 (Nat.le_of_ble_eq_true rfl) rfl (dk KX9_place 1 rfl) ?_
  exact Y_iret (dk KX9_place 2 rfl) rfl h

end G
