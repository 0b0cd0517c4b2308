section G
variable {g : GP}
def fX8_isWithin (a0 : Int32) (a1 : Int32) (a2 : Int32) (σ : PS) : Option (Int32 × PS) := (if a0 < a1 then some (0, σ) else (if a2 < a0 then some (0, σ) else some (1, σ)))
set_option maxRecDepth 100000 in
set_option maxHeartbeats 4000000 in
theorem okX8_isWithin (a0 : Int32) (a1 : Int32) (a2 : Int32) (σ : PS) (P : Int32 × PS → Prop) (h : hO (fX8_isWithin a0 a1 a2 σ) P) : CON g mX8_isWithin 0 0 0 [.int a0, .int a1, .int a2] (HP σ) (pI P) := by
  refine CON.of (by decide) (by simp [lg_sl, Value.category]) ?_
  show X g _ _ _ _ _ 0 [(0, .int a0), (1, .int a1), (2, .int a2)] [] _
  unfold fX8_isWithin at h
  refine X_iload_n 1 rfl (dk KX8_isWithin 0 rfl) ?_
  refine X_iload_n 0 rfl (dk KX8_isWithin 1 rfl) ?_
  refine X_icmp_gt 14 (dk KX8_isWithin 2 rfl) (by decide) (fun hc => ?_) (fun hc => ?_)
  · have h := hO_t hc h
    refine X_iconst (dk KX8_isWithin 8 rfl) 0 (by decide) ?_
    exact Y_zret (dk KX8_isWithin 9 rfl) rfl (by decide) h
  · have h := hO_f hc h
    refine X_iload_n 0 rfl (dk KX8_isWithin 3 rfl) ?_
    refine X_iload_n 2 rfl (dk KX8_isWithin 4 rfl) ?_
    refine X_icmp_gt 14 (dk KX8_isWithin 5 rfl) (by decide) (fun hc => ?_) (fun hc => ?_)
    · have h := hO_t hc h
      refine X_iconst (dk KX8_isWithin 8 rfl) 0 (by decide) ?_
      exact Y_zret (dk KX8_isWithin 9 rfl) rfl (by decide) h
    · have h := hO_f hc h
      refine X_iconst (dk KX8_isWithin 6 rfl) 1 (by decide) ?_
      refine X_goto 15 (dk KX8_isWithin 7 rfl) (by decide) ?_
      exact Y_zret (dk KX8_isWithin 9 rfl) rfl (by decide) h

def fX8_isDay (a0 : Int32) (σ : PS) : Option (Int32 × PS) := (fX8_isWithin a0 0 59 σ).bind (fun qy1 => (fun (y1 : Int32) (σ2 : PS) => gd (is01 y1) (some (y1, σ2))) qy1.1 qy1.2)
set_option maxRecDepth 100000 in
set_option maxHeartbeats 4000000 in
theorem okX8_isDay (a0 : Int32) (σ : PS) (P : Int32 × PS → Prop) (h : hO (fX8_isDay a0 σ) P) : CON g mX8_isDay 1 0 0 [.int a0] (HP σ) (pI P) := by
  refine CON.of (by decide) (by simp [lg_sl, Value.category]) ?_
  show X g _ _ _ _ _ 0 [(0, .int a0)] [] _
  unfold fX8_isDay at h
  refine X_iload_n 0 rfl (dk KX8_isDay 0 rfl) ?_
  refine X_iconst (dk KX8_isDay 1 rfl) 0 (by decide) ?_
  refine X_bipush (dk KX8_isDay 2 rfl) 59 (by decide) ?_
  refine Y_callSI wX8_66 [.int a0, .int 0, .int 59] [] rfl rfl (Nat.le_of_ble_eq_true rfl) (Nat.le_of_ble_eq_true rfl) (dk KX8_isDay 3 rfl) (fun Pc h => okX8_isWithin _ _ _ _ Pc h) h (fun y1 σ2 e3 h => ?_)
  try dsimp only at h
  exact Y_zret (dk KX8_isDay 4 rfl) rfl (hO_gd h).1 (hO_gd h).2

def fX8_isLord (a0 : Int32) (σ : PS) : Option (Int32 × PS) := (fX8_isWithin a0 0 4 σ).bind (fun qy1 => (fun (y1 : Int32) (σ2 : PS) => gd (is01 y1) (some (y1, σ2))) qy1.1 qy1.2)
set_option maxRecDepth 100000 in
set_option maxHeartbeats 4000000 in
theorem okX8_isLord (a0 : Int32) (σ : PS) (P : Int32 × PS → Prop) (h : hO (fX8_isLord a0 σ) P) : CON g mX8_isLord 1 0 0 [.int a0] (HP σ) (pI P) := by
  refine CON.of (by decide) (by simp [lg_sl, Value.category]) ?_
  show X g _ _ _ _ _ 0 [(0, .int a0)] [] _
  unfold fX8_isLord at h
  refine X_iload_n 0 rfl (dk KX8_isLord 0 rfl) ?_
  refine X_iconst (dk KX8_isLord 1 rfl) 0 (by decide) ?_
  refine X_iconst (dk KX8_isLord 2 rfl) 4 (by decide) ?_
  refine Y_callSI wX8_66 [.int a0, .int 0, .int 4] [] rfl rfl (Nat.le_of_ble_eq_true rfl) (Nat.le_of_ble_eq_true rfl) (dk KX8_isLord 3 rfl) (fun Pc h => okX8_isWithin _ _ _ _ Pc h) h (fun y1 σ2 e3 h => ?_)
  try dsimp only at h
  exact Y_zret (dk KX8_isLord 4 rfl) rfl (hO_gd h).1 (hO_gd h).2

def fX7_append_40 (r3 : Int32 → Int32 → PS → Option (PS)) (x1 : Int32) (x2 : Int32) (σ : PS) : Option (PS) := r3 x1 (x2 + (-8)) σ
set_option maxRecDepth 100000 in
set_option maxHeartbeats 4000000 in
theorem tX7_append_40 {P : PS → Prop} {r3 : Int32 → Int32 → PS → Option (PS)} (hr_3 : ∀ (x1 : Int32) (x2 : Int32) (σ : PS), hO (r3 x1 x2 σ) P → X g mX7_append 0 0 0 (pV P) 3 [(0, .ref 1), (1, .int x1), (2, .int x2)] [] (HP σ)) (x1 : Int32) (x2 : Int32) (σ : PS) (h : hO (fX7_append_40 r3 x1 x2 σ) P) : X g mX7_append 0 0 0 (pV P) 40 [(0, .ref 1), (1, .int x1), (2, .int x2)] [] (HP σ) := by
  unfold fX7_append_40 at h
  refine X_iinc 2 (-8) [(2, .int (x2 + (-8))), (0, .ref 1), (1, .int x1)] (dk KX7_append 23 rfl) rfl (by decide) (by decide) rfl ?_
  refine X_goto 3 (dk KX7_append 24 rfl) (by decide) ?_
  refine X_sub [(0, .ref 1), (1, .int x1), (2, .int (x2 + (-8)))] [1, 2, 0] rfl ?_
  exact hr_3 x1 (x2 + (-8)) σ h
def fX7_append_3 : Nat → Int32 → Int32 → PS → Option (PS)
  | 0, _, _, _ => none
  | n + 1, x1, x2, σ => (if x2 < 0 then some σ else (if 2000 ≤ (gi σ 1 1) then fX7_append_40 (fX7_append_3 n) x1 x2 σ else gd (inb (gi σ 1 1) 2000) (fX7_append_40 (fX7_append_3 n) x1 x2 (sI (sI σ 2 ((gi σ 1 1) : Int32).toNatClampNeg (vp_nar .byte (((x1 : Int32).toUInt32 >>> ((x2 : Int32).toUInt32 &&& Int32.toUInt32 31)).toInt32 : Int32).toInt8.toInt32)) 1 1 ((gi (sI σ 2 ((gi σ 1 1) : Int32).toNatClampNeg (vp_nar .byte (((x1 : Int32).toUInt32 >>> ((x2 : Int32).toUInt32 &&& Int32.toUInt32 31)).toInt32 : Int32).toInt8.toInt32)) 1 1) + 1)))))
set_option maxRecDepth 100000 in
set_option maxHeartbeats 4000000 in
theorem tX7_append_3 {P : PS → Prop} : ∀ (n : Nat) (x1 : Int32) (x2 : Int32) (σ : PS), hO (fX7_append_3 n x1 x2 σ) P → X g mX7_append 0 0 0 (pV P) 3 [(0, .ref 1), (1, .int x1), (2, .int x2)] [] (HP σ) := by
  intro n
  induction n with
  | zero =>
    intro x1 x2 σ h
    rw [fX7_append_3] at h
    exact (hO_none h).elim
  | succ n ih =>
    intro x1 x2 σ h
    rw [fX7_append_3] at h
    refine X_iload_n 2 rfl (dk KX7_append 2 rfl) ?_
    refine X_if_lt 46 (dk KX7_append 3 rfl) (by decide) (fun hc => ?_) (fun hc => ?_)
    · have h := hO_t hc h
      exact Y_vret (dk KX7_append 25 rfl) rfl h
    · have h := hO_f hc h
      refine X_aload_n 0 rfl (dk KX7_append 4 rfl) ?_
      refine Y_getI fX7_15 (Nat.le_of_ble_eq_true rfl) rfl (dk KX7_append 5 rfl) ?_
      refine X_sipush (dk KX7_append 6 rfl) 2000 (by decide) ?_
      refine X_icmp_ge 40 (dk KX7_append 7 rfl) (by decide) (fun hc => ?_) (fun hc => ?_)
      · have h := hO_t hc h
        exact tX7_append_40 ih x1 x2 σ h
      · have h := hO_f hc h
        refine X_aload_n 0 rfl (dk KX7_append 8 rfl) ?_
        refine Y_getR 2 fX7_9 (Nat.le_of_ble_eq_true rfl) rfl rfl (dk KX7_append 9 rfl) ?_
        refine X_aload_n 0 rfl (dk KX7_append 10 rfl) ?_
        refine Y_getI fX7_15 (Nat.le_of_ble_eq_true rfl) rfl (dk KX7_append 11 rfl) ?_
        refine X_iload_n 1 rfl (dk KX7_append 12 rfl) ?_
        refine X_iload_n 2 rfl (dk KX7_append 13 rfl) ?_
        refine X_iushr (dk KX7_append 14 rfl) ?_
        refine X_i2b (dk KX7_append 15 rfl) ?_
        refine Y_bast (Nat.le_of_ble_eq_true rfl) rfl (dk KX7_append 16 rfl) h (fun hi1 h => ?_)
        refine X_aload_n 0 rfl (dk KX7_append 17 rfl) ?_
        refine X_dup (dk KX7_append 18 rfl) rfl ?_
        refine Y_getI fX7_15 (Nat.le_of_ble_eq_true rfl) rfl (dk KX7_append 19 rfl) ?_
        refine X_iconst (dk KX7_append 20 rfl) 1 (by decide) ?_
        refine X_iadd (dk KX7_append 21 rfl) ?_
        refine Y_putI fX7_15 rfl (Nat.le_of_ble_eq_true rfl) rfl (dk KX7_append 22 rfl) ?_
        exact tX7_append_40 ih x1 x2 (sI (sI σ 2 ((gi σ 1 1) : Int32).toNatClampNeg (vp_nar .byte (((x1 : Int32).toUInt32 >>> ((x2 : Int32).toUInt32 &&& Int32.toUInt32 31)).toInt32 : Int32).toInt8.toInt32)) 1 1 ((gi (sI σ 2 ((gi σ 1 1) : Int32).toNatClampNeg (vp_nar .byte (((x1 : Int32).toUInt32 >>> ((x2 : Int32).toUInt32 &&& Int32.toUInt32 31)).toInt32 : Int32).toInt8.toInt32)) 1 1) + 1)) h
def fX7_append (a1 : Int32) (σ : PS) : Option (PS) := fX7_append_3 FU a1 24 σ
set_option maxRecDepth 100000 in
set_option maxHeartbeats 4000000 in
theorem okX7_append (a1 : Int32) (σ : PS) (P : PS → Prop) (h : hO (fX7_append a1 σ) P) : CON g mX7_append 0 0 0 [.ref 1, .int a1] (HP σ) (pV P) := by
  refine CON.of (by decide) (by simp [lg_sl, Value.category]) ?_
  show X g _ _ _ _ _ 0 [(0, .ref 1), (1, .int a1)] [] _
  unfold fX7_append at h
  refine X_bipush (dk KX7_append 0 rfl) 24 (by decide) ?_
  refine X_istore_n [(2, .int 24), (0, .ref 1), (1, .int a1)] (dk KX7_append 1 rfl) (by decide) rfl ?_
  refine X_sub [(0, .ref 1), (1, .int a1), (2, .int 24)] [1, 2, 0] rfl ?_
  exact tX7_append_3 FU a1 24 σ h

def fX7_at (a1 : Int32) (σ : PS) : Option (Int32 × PS) := (if a1 < 0 then some ((-1), σ) else (if (gi σ 1 1) ≤ a1 then some ((-1), σ) else (if 2000 ≤ a1 then some ((-1), σ) else gd (inb a1 2000) (some (((gi σ 2 (a1 : Int32).toNatClampNeg) &&& 255), σ)))))
set_option maxRecDepth 100000 in
set_option maxHeartbeats 4000000 in
theorem okX7_at (a1 : Int32) (σ : PS) (P : Int32 × PS → Prop) (h : hO (fX7_at a1 σ) P) : CON g mX7_at 0 0 0 [.ref 1, .int a1] (HP σ) (pI P) := by
  refine CON.of (by decide) (by simp [lg_sl, Value.category]) ?_
  show X g _ _ _ _ _ 0 [(0, .ref 1), (1, .int a1)] [] _
  unfold fX7_at at h
  refine X_iload_n 1 rfl (dk KX7_at 0 rfl) ?_
  refine X_if_lt 32 (dk KX7_at 1 rfl) (by decide) (fun hc => ?_) (fun hc => ?_)
  · have h := hO_t hc h
    refine X_iconst (dk KX7_at 16 rfl) (-1) (by decide) ?_
    exact Y_iret (dk KX7_at 17 rfl) rfl h
  · have h := hO_f hc h
    refine X_iload_n 1 rfl (dk KX7_at 2 rfl) ?_
    refine X_aload_n 0 rfl (dk KX7_at 3 rfl) ?_
    refine Y_getI fX7_15 (Nat.le_of_ble_eq_true rfl) rfl (dk KX7_at 4 rfl) ?_
    refine X_icmp_ge 32 (dk KX7_at 5 rfl) (by decide) (fun hc => ?_) (fun hc => ?_)
    · have h := hO_t hc h
      refine X_iconst (dk KX7_at 16 rfl) (-1) (by decide) ?_
      exact Y_iret (dk KX7_at 17 rfl) rfl h
    · have h := hO_f hc h
      refine X_iload_n 1 rfl (dk KX7_at 6 rfl) ?_
      refine X_sipush (dk KX7_at 7 rfl) 2000 (by decide) ?_
      refine X_icmp_ge 32 (dk KX7_at 8 rfl) (by decide) (fun hc => ?_) (fun hc => ?_)
      · have h := hO_t hc h
        refine X_iconst (dk KX7_at 16 rfl) (-1) (by decide) ?_
        exact Y_iret (dk KX7_at 17 rfl) rfl h
      · have h := hO_f hc h
        refine X_aload_n 0 rfl (dk KX7_at 9 rfl) ?_
        refine Y_getR 2 fX7_9 (Nat.le_of_ble_eq_true rfl) rfl rfl (dk KX7_at 10 rfl) ?_
        refine X_iload_n 1 rfl (dk KX7_at 11 rfl) ?_
        refine Y_bald (Nat.le_of_ble_eq_true rfl) rfl (dk KX7_at 12 rfl) h (fun hi1 h => ?_)
        refine X_sipush (dk KX7_at 13 rfl) 255 (by decide) ?_
        refine X_iand (dk KX7_at 14 rfl) ?_
        refine X_goto 33 (dk KX7_at 15 rfl) (by decide) ?_
        exact Y_iret (dk KX7_at 17 rfl) rfl h

def fX2_hasInn (a1 : Int32) (σ : PS) : Option (Int32 × PS) := (fX8_isWithin a1 0 ((gi σ 3 0) - 1) σ).bind (fun qy1 => (fun (y1 : Int32) (σ2 : PS) => gd (is01 y1) (some (y1, σ2))) qy1.1 qy1.2)
set_option maxRecDepth 100000 in
set_option maxHeartbeats 4000000 in
theorem okX2_hasInn (a1 : Int32) (σ : PS) (P : Int32 × PS → Prop) (h : hO (fX2_hasInn a1 σ) P) : CON g mX2_hasInn 1 0 0 [.ref 3, .int a1] (HP σ) (pI P) := by
  refine CON.of (by decide) (by simp [lg_sl, Value.category]) ?_
  show X g _ _ _ _ _ 0 [(0, .ref 3), (1, .int a1)] [] _
  unfold fX2_hasInn at h
  refine X_iload_n 1 rfl (dk KX2_hasInn 0 rfl) ?_
  refine X_iconst (dk KX2_hasInn 1 rfl) 0 (by decide) ?_
  refine X_aload_n 0 rfl (dk KX2_hasInn 2 rfl) ?_
  refine Y_getI fX2_9 (Nat.le_of_ble_eq_true rfl) rfl (dk KX2_hasInn 3 rfl) ?_
  refine X_iconst (dk KX2_hasInn 4 rfl) 1 (by decide) ?_
  refine X_isub (dk KX2_hasInn 5 rfl) ?_
  refine Y_callNI wX2_63 [.int a1, .int 0, .int ((gi σ 3 0) - 1)] [] rfl rfl (Nat.le_of_ble_eq_true rfl) (Nat.le_of_ble_eq_true rfl) (dk KX2_hasInn 6 rfl) (fun Pc h => okX8_isWithin _ _ _ _ Pc h) h (fun y1 σ2 e3 h => ?_)
  try dsimp only at h
  exact Y_zret (dk KX2_hasInn 7 rfl) rfl (hO_gd h).1 (hO_gd h).2

def fX2_hasCaravan (a1 : Int32) (σ : PS) : Option (Int32 × PS) := (fX8_isWithin a1 0 ((gi σ 3 6) - 1) σ).bind (fun qy1 => (fun (y1 : Int32) (σ2 : PS) => gd (is01 y1) (some (y1, σ2))) qy1.1 qy1.2)
set_option maxRecDepth 100000 in
set_option maxHeartbeats 4000000 in
theorem okX2_hasCaravan (a1 : Int32) (σ : PS) (P : Int32 × PS → Prop) (h : hO (fX2_hasCaravan a1 σ) P) : CON g mX2_hasCaravan 1 0 0 [.ref 3, .int a1] (HP σ) (pI P) := by
  refine CON.of (by decide) (by simp [lg_sl, Value.category]) ?_
  show X g _ _ _ _ _ 0 [(0, .ref 3), (1, .int a1)] [] _
  unfold fX2_hasCaravan at h
  refine X_iload_n 1 rfl (dk KX2_hasCaravan 0 rfl) ?_
  refine X_iconst (dk KX2_hasCaravan 1 rfl) 0 (by decide) ?_
  refine X_aload_n 0 rfl (dk KX2_hasCaravan 2 rfl) ?_
  refine Y_getI fX2_33 (Nat.le_of_ble_eq_true rfl) rfl (dk KX2_hasCaravan 3 rfl) ?_
  refine X_iconst (dk KX2_hasCaravan 4 rfl) 1 (by decide) ?_
  refine X_isub (dk KX2_hasCaravan 5 rfl) ?_
  refine Y_callNI wX2_63 [.int a1, .int 0, .int ((gi σ 3 6) - 1)] [] rfl rfl (Nat.le_of_ble_eq_true rfl) (Nat.le_of_ble_eq_true rfl) (dk KX2_hasCaravan 6 rfl) (fun Pc h => okX8_isWithin _ _ _ _ Pc h) h (fun y1 σ2 e3 h => ?_)
  try dsimp only at h
  exact Y_zret (dk KX2_hasCaravan 7 rfl) rfl (hO_gd h).1 (hO_gd h).2

def fX2_hasBale (a1 : Int32) (σ : PS) : Option (Int32 × PS) := (fX8_isWithin a1 0 ((gi σ 3 14) - 1) σ).bind (fun qy1 => (fun (y1 : Int32) (σ2 : PS) => gd (is01 y1) (some (y1, σ2))) qy1.1 qy1.2)
set_option maxRecDepth 100000 in
set_option maxHeartbeats 4000000 in
theorem okX2_hasBale (a1 : Int32) (σ : PS) (P : Int32 × PS → Prop) (h : hO (fX2_hasBale a1 σ) P) : CON g mX2_hasBale 1 0 0 [.ref 3, .int a1] (HP σ) (pI P) := by
  refine CON.of (by decide) (by simp [lg_sl, Value.category]) ?_
  show X g _ _ _ _ _ 0 [(0, .ref 3), (1, .int a1)] [] _
  unfold fX2_hasBale at h
  refine X_iload_n 1 rfl (dk KX2_hasBale 0 rfl) ?_
  refine X_iconst (dk KX2_hasBale 1 rfl) 0 (by decide) ?_
  refine X_aload_n 0 rfl (dk KX2_hasBale 2 rfl) ?_
  refine Y_getI fX2_57 (Nat.le_of_ble_eq_true rfl) rfl (dk KX2_hasBale 3 rfl) ?_
  refine X_iconst (dk KX2_hasBale 4 rfl) 1 (by decide) ?_
  refine X_isub (dk KX2_hasBale 5 rfl) ?_
  refine Y_callNI wX2_63 [.int a1, .int 0, .int ((gi σ 3 14) - 1)] [] rfl rfl (Nat.le_of_ble_eq_true rfl) (Nat.le_of_ble_eq_true rfl) (dk KX2_hasBale 6 rfl) (fun Pc h => okX8_isWithin _ _ _ _ Pc h) h (fun y1 σ2 e3 h => ?_)
  try dsimp only at h
  exact Y_zret (dk KX2_hasBale 7 rfl) rfl (hO_gd h).1 (hO_gd h).2

end G
