section G
variable {g : GP}
def fX0_add (a1 : Int32) (a2 : Int32) (a3 : Int32) (σ : PS) : Option (Int32 × PS) := (if (gi σ 25 0) < 300 then gd (inb (gi σ 25 0) 300) (gd (inb (gi σ 25 0) 300) (gd (inb (gi σ 25 0) 300) (some ((gi σ 25 0), (sI (sI (sI (sI σ 26 ((gi σ 25 0) : Int32).toNatClampNeg a1) 27 ((gi σ 25 0) : Int32).toNatClampNeg a2) 28 ((gi σ 25 0) : Int32).toNatClampNeg (vp_nar .boolean a3)) 25 0 ((gi σ 25 0) + 1)))))) else some ((-1), σ))
set_option maxRecDepth 100000 in
set_option maxHeartbeats 4000000 in
theorem okX0_add (a1 : Int32) (a2 : Int32) (a3 : Int32) (σ : PS) (P : Int32 × PS → Prop) (h : hO (fX0_add a1 a2 a3 σ) P) : CON g mX0_add 0 0 0 [.ref 25, .int a1, .int a2, .int a3] (HP σ) (pI P) := by
  refine CON.of (by decide) (by simp [lg_sl, Value.category]) ?_
  show X g _ _ _ _ _ 0 [(0, .ref 25), (1, .int a1), (2, .int a2), (3, .int a3)] [] _
  unfold fX0_add at h
  refine X_aload_n 0 rfl (dk KX0_add 0 rfl) ?_
  refine Y_getI fX0_9 (Nat.le_of_ble_eq_true rfl) rfl (dk KX0_add 1 rfl) ?_
  refine X_istore [(4, .int (gi σ 25 0)), (0, .ref 25), (1, .int a1), (2, .int a2), (3, .int a3)] (dk KX0_add 2 rfl) (by decide) rfl ?_
  refine X_iload 0 rfl (dk KX0_add 3 rfl) ?_
  refine X_sipush (dk KX0_add 4 rfl) 300 (by decide) ?_
  refine X_icmp_lt 16 (dk KX0_add 5 rfl) (by decide) (fun hc => ?_) (fun hc => ?_)
  · have h := hO_t hc h
    refine X_aload_n 1 rfl (dk KX0_add 8 rfl) ?_
    refine Y_getR 26 fX0_15 (Nat.le_of_ble_eq_true rfl) rfl rfl (dk KX0_add 9 rfl) ?_
    refine X_iload 0 rfl (dk KX0_add 10 rfl) ?_
    refine X_iload_n 2 rfl (dk KX0_add 11 rfl) ?_
    refine Y_iast (Nat.le_of_ble_eq_true rfl) rfl (dk KX0_add 12 rfl) h (fun hi1 h => ?_)
    refine X_aload_n 1 rfl (dk KX0_add 13 rfl) ?_
    refine Y_getR 27 fX0_19 (Nat.le_of_ble_eq_true rfl) rfl rfl (dk KX0_add 14 rfl) ?_
    refine X_iload 0 rfl (dk KX0_add 15 rfl) ?_
    refine X_iload_n 3 rfl (dk KX0_add 16 rfl) ?_
    refine Y_iast (Nat.le_of_ble_eq_true rfl) rfl (dk KX0_add 17 rfl) h (fun hi2 h => ?_)
    refine X_aload_n 1 rfl (dk KX0_add 18 rfl) ?_
    refine Y_getR 28 fX0_22 (Nat.le_of_ble_eq_true rfl) rfl rfl (dk KX0_add 19 rfl) ?_
    refine X_iload 0 rfl (dk KX0_add 20 rfl) ?_
    refine X_iload_n 4 rfl (dk KX0_add 21 rfl) ?_
    refine Y_zast (Nat.le_of_ble_eq_true rfl) rfl (dk KX0_add 22 rfl) h (fun hi3 h => ?_)
    refine X_aload_n 1 rfl (dk KX0_add 23 rfl) ?_
    refine X_iload 0 rfl (dk KX0_add 24 rfl) ?_
    refine X_iconst (dk KX0_add 25 rfl) 1 (by decide) ?_
    refine X_iadd (dk KX0_add 26 rfl) ?_
    refine Y_putI fX0_9 rfl (Nat.le_of_ble_eq_true rfl) rfl (dk KX0_add 27 rfl) ?_
    refine X_iload 0 rfl (dk KX0_add 28 rfl) ?_
    exact Y_iret (dk KX0_add 29 rfl) rfl h
  · have h := hO_f hc h
    refine X_iconst (dk KX0_add 6 rfl) (-1) (by decide) ?_
    exact Y_iret (dk KX0_add 7 rfl) rfl h

def fX0_addShut (a1 : Int32) (a2 : Int32) (σ : PS) : Option (Int32 × PS) := (fX0_add (-1) a2 0 σ).bind (fun qy1 => (fun (y1 : Int32) (σ2 : PS) => (if y1 = (-1) then some (y1, σ2) else gd (inb a1 8) (gd (inb a2 60) ((if (gi σ2 (rw_ 29 a1) (a2 : Int32).toNatClampNeg) = 0 then gd (inb a1 8) (gd (inb a2 60) (some (y1, (sI σ2 (rw_ 29 a1) (a2 : Int32).toNatClampNeg (y1 + 1))))) else some (y1, σ2)))))) qy1.1 qy1.2)
set_option maxRecDepth 100000 in
set_option maxHeartbeats 4000000 in
theorem okX0_addShut (a1 : Int32) (a2 : Int32) (σ : PS) (P : Int32 × PS → Prop) (h : hO (fX0_addShut a1 a2 σ) P) : CON g mX0_addShut 1 0 0 [.ref 25, .int a1, .int a2] (HP σ) (pI P) := by
  refine CON.of (by decide) (by simp [lg_sl, Value.category]) ?_
  show X g _ _ _ _ _ 0 [(0, .ref 25), (1, .int a1), (2, .int a2)] [] _
  unfold fX0_addShut at h
  refine X_aload_n 0 rfl (dk KX0_addShut 0 rfl) ?_
  refine X_iconst (dk KX0_addShut 1 rfl) (-1) (by decide) ?_
  refine X_iload_n 2 rfl (dk KX0_addShut 2 rfl) ?_
  refine X_iconst (dk KX0_addShut 3 rfl) 0 (by decide) ?_
  refine Y_callVI wX0_35 (Nat.le_of_ble_eq_true rfl) rfl [.int (-1), .int a2, .int 0] [] rfl rfl (Nat.le_of_ble_eq_true rfl) (Nat.le_of_ble_eq_true rfl) (dk KX0_addShut 4 rfl) (fun Pc h => okX0_add _ _ _ _ Pc h) h (fun y1 σ2 e3 h => ?_)
  try dsimp only at h
  refine X_istore_n [(3, .int y1), (0, .ref 25), (1, .int a1), (2, .int a2)] (dk KX0_addShut 5 rfl) (by decide) rfl ?_
  refine X_iload_n 0 rfl (dk KX0_addShut 6 rfl) ?_
  refine X_iconst (dk KX0_addShut 7 rfl) (-1) (by decide) ?_
  refine X_icmp_eq 35 (dk KX0_addShut 8 rfl) (by decide) (fun hc => ?_) (fun hc => ?_)
  · have h := hO_t hc h
    refine X_iload_n 0 rfl (dk KX0_addShut 25 rfl) ?_
    exact Y_iret (dk KX0_addShut 26 rfl) rfl h
  · have h := hO_f hc h
    refine X_aload_n 1 rfl (dk KX0_addShut 9 rfl) ?_
    refine Y_getR 29 fX0_28 (Nat.le_of_ble_eq_true rfl) rfl rfl (dk KX0_addShut 10 rfl) ?_
    refine X_iload_n 2 rfl (dk KX0_addShut 11 rfl) ?_
    refine Y_aald (rw_ 29 a1) (Nat.le_of_ble_eq_true rfl) rfl (gr29_rf _ _) (dk KX0_addShut 12 rfl) h (fun hi4 h => ?_)
    refine X_iload_n 3 rfl (dk KX0_addShut 13 rfl) ?_
    refine Y_iald (gr29_lt hi4) (gr29_ob hi4) (dk KX0_addShut 14 rfl) h (fun hi5 h => ?_)
    refine X_if_ne 35 (dk KX0_addShut 15 rfl) (by decide) (fun hc => ?_) (fun hc => ?_)
    · have h := hO_f hc h
      refine X_iload_n 0 rfl (dk KX0_addShut 25 rfl) ?_
      exact Y_iret (dk KX0_addShut 26 rfl) rfl h
    · have h := hO_t hc h
      refine X_aload_n 1 rfl (dk KX0_addShut 16 rfl) ?_
      refine Y_getR 29 fX0_28 (Nat.le_of_ble_eq_true rfl) rfl rfl (dk KX0_addShut 17 rfl) ?_
      refine X_iload_n 2 rfl (dk KX0_addShut 18 rfl) ?_
      refine Y_aald (rw_ 29 a1) (Nat.le_of_ble_eq_true rfl) rfl (gr29_rf _ _) (dk KX0_addShut 19 rfl) h (fun hi6 h => ?_)
      refine X_iload_n 3 rfl (dk KX0_addShut 20 rfl) ?_
      refine X_iload_n 0 rfl (dk KX0_addShut 21 rfl) ?_
      refine X_iconst (dk KX0_addShut 22 rfl) 1 (by decide) ?_
      refine X_iadd (dk KX0_addShut 23 rfl) ?_
      refine Y_iast (gr29_lt hi6) (gr29_ob hi6) (dk KX0_addShut 24 rfl) h (fun hi7 h => ?_)
      refine X_iload_n 0 rfl (dk KX0_addShut 25 rfl) ?_
      exact Y_iret (dk KX0_addShut 26 rfl) rfl h

def fX0_addLook (a1 : Int32) (a2 : Int32) (a3 : Int32) (σ : PS) : Option (Int32 × PS) := (fX0_add a1 a2 a3 σ).bind (fun qy1 => (fun (y1 : Int32) (σ2 : PS) => some (y1, σ2)) qy1.1 qy1.2)
set_option maxRecDepth 100000 in
set_option maxHeartbeats 4000000 in
theorem okX0_addLook (a1 : Int32) (a2 : Int32) (a3 : Int32) (σ : PS) (P : Int32 × PS → Prop) (h : hO (fX0_addLook a1 a2 a3 σ) P) : CON g mX0_addLook 1 0 0 [.ref 25, .int a1, .int a2, .int a3] (HP σ) (pI P) := by
  refine CON.of (by decide) (by simp [lg_sl, Value.category]) ?_
  show X g _ _ _ _ _ 0 [(0, .ref 25), (1, .int a1), (2, .int a2), (3, .int a3)] [] _
  unfold fX0_addLook at h
  refine X_aload_n 0 rfl (dk KX0_addLook 0 rfl) ?_
  refine X_iload_n 1 rfl (dk KX0_addLook 1 rfl) ?_
  refine X_iload_n 2 rfl (dk KX0_addLook 2 rfl) ?_
  refine X_iload_n 3 rfl (dk KX0_addLook 3 rfl) ?_
  refine Y_callVI wX0_35 (Nat.le_of_ble_eq_true rfl) rfl [.int a1, .int a2, .int a3] [] rfl rfl (Nat.le_of_ble_eq_true rfl) (Nat.le_of_ble_eq_true rfl) (dk KX0_addLook 4 rfl) (fun Pc h => okX0_add _ _ _ _ Pc h) h (fun y1 σ2 e3 h => ?_)
  try dsimp only at h
  exact Y_iret (dk KX0_addLook 5 rfl) rfl h

def fX0_isKnown (a1 : Int32) (σ : PS) : Option (Int32 × PS) := (fX8_isWithin a1 0 (gi σ 25 0) σ).bind (fun qy1 => (fun (y1 : Int32) (σ2 : PS) => gd (is01 y1) (some (y1, σ2))) qy1.1 qy1.2)
set_option maxRecDepth 100000 in
set_option maxHeartbeats 4000000 in
theorem okX0_isKnown (a1 : Int32) (σ : PS) (P : Int32 × PS → Prop) (h : hO (fX0_isKnown a1 σ) P) : CON g mX0_isKnown 1 0 0 [.ref 25, .int a1] (HP σ) (pI P) := by
  refine CON.of (by decide) (by simp [lg_sl, Value.category]) ?_
  show X g _ _ _ _ _ 0 [(0, .ref 25), (1, .int a1)] [] _
  unfold fX0_isKnown at h
  refine X_iload_n 1 rfl (dk KX0_isKnown 0 rfl) ?_
  refine X_iconst (dk KX0_isKnown 1 rfl) 0 (by decide) ?_
  refine X_aload_n 0 rfl (dk KX0_isKnown 2 rfl) ?_
  refine Y_getI fX0_9 (Nat.le_of_ble_eq_true rfl) rfl (dk KX0_isKnown 3 rfl) ?_
  refine Y_callNI wX0_31 [.int a1, .int 0, .int (gi σ 25 0)] [] rfl rfl (Nat.le_of_ble_eq_true rfl) (Nat.le_of_ble_eq_true rfl) (dk KX0_isKnown 4 rfl) (fun Pc h => okX8_isWithin _ _ _ _ Pc h) h (fun y1 σ2 e3 h => ?_)
  try dsimp only at h
  exact Y_zret (dk KX0_isKnown 5 rfl) rfl (hO_gd h).1 (hO_gd h).2

def fX0_shutsAmong_29 (r4 : Int32 → Int32 → Int32 → PS → Option (Int32 × PS)) (x1 : Int32) (x2 : Int32) (x3 : Int32) (σ : PS) : Option (Int32 × PS) := r4 x1 x2 (x3 + 1) σ
set_option maxRecDepth 100000 in
set_option maxHeartbeats 4000000 in
theorem tX0_shutsAmong_29 {P : Int32 × PS → Prop} {r4 : Int32 → Int32 → Int32 → PS → Option (Int32 × PS)} (hr_4 : ∀ (x1 : Int32) (x2 : Int32) (x3 : Int32) (σ : PS), hO (r4 x1 x2 x3 σ) P → X g mX0_shutsAmong 0 0 0 (pI P) 4 [(0, .ref 25), (1, .int x1), (2, .int x2), (3, .int x3)] [] (HP σ)) (x1 : Int32) (x2 : Int32) (x3 : Int32) (σ : PS) (h : hO (fX0_shutsAmong_29 r4 x1 x2 x3 σ) P) : X g mX0_shutsAmong 0 0 0 (pI P) 29 [(0, .ref 25), (1, .int x1), (2, .int x2), (3, .int x3)] [] (HP σ) := by
  unfold fX0_shutsAmong_29 at h
  refine X_iinc 3 1 [(3, .int (x3 + 1)), (0, .ref 25), (1, .int x1), (2, .int x2)] (dk KX0_shutsAmong 17 rfl) rfl (by decide) (by decide) rfl ?_
  refine X_goto 4 (dk KX0_shutsAmong 18 rfl) (by decide) ?_
  refine X_sub [(0, .ref 25), (1, .int x1), (2, .int x2), (3, .int (x3 + 1))] [1, 2, 3, 0] rfl ?_
  exact hr_4 x1 x2 (x3 + 1) σ h
def fX0_shutsAmong_4 : Nat → Int32 → Int32 → Int32 → PS → Option (Int32 × PS)
  | 0, _, _, _, _ => none
  | n + 1, x1, x2, x3, σ => (if x1 ≤ x3 then some (x2, σ) else (if 300 ≤ x3 then some (x2, σ) else gd (inb x3 300) ((if (gi σ 26 (x3 : Int32).toNatClampNeg) = (-1) then fX0_shutsAmong_29 (fX0_shutsAmong_4 n) x1 (x2 + 1) x3 σ else fX0_shutsAmong_29 (fX0_shutsAmong_4 n) x1 x2 x3 σ))))
set_option maxRecDepth 100000 in
set_option maxHeartbeats 4000000 in
theorem tX0_shutsAmong_4 {P : Int32 × PS → Prop} : ∀ (n : Nat) (x1 : Int32) (x2 : Int32) (x3 : Int32) (σ : PS), hO (fX0_shutsAmong_4 n x1 x2 x3 σ) P → X g mX0_shutsAmong 0 0 0 (pI P) 4 [(0, .ref 25), (1, .int x1), (2, .int x2), (3, .int x3)] [] (HP σ) := by
  intro n
  induction n with
  | zero =>
    intro x1 x2 x3 σ h
    rw [fX0_shutsAmong_4] at h
    exact (hO_none h).elim
  | succ n ih =>
    intro x1 x2 x3 σ h
    rw [fX0_shutsAmong_4] at h
    refine X_iload_n 3 rfl (dk KX0_shutsAmong 4 rfl) ?_
    refine X_iload_n 1 rfl (dk KX0_shutsAmong 5 rfl) ?_
    refine X_icmp_ge 35 (dk KX0_shutsAmong 6 rfl) (by decide) (fun hc => ?_) (fun hc => ?_)
    · have h := hO_t hc h
      refine X_iload_n 2 rfl (dk KX0_shutsAmong 19 rfl) ?_
      exact Y_iret (dk KX0_shutsAmong 20 rfl) rfl h
    · have h := hO_f hc h
      refine X_iload_n 3 rfl (dk KX0_shutsAmong 7 rfl) ?_
      refine X_sipush (dk KX0_shutsAmong 8 rfl) 300 (by decide) ?_
      refine X_icmp_ge 35 (dk KX0_shutsAmong 9 rfl) (by decide) (fun hc => ?_) (fun hc => ?_)
      · have h := hO_t hc h
        refine X_iload_n 2 rfl (dk KX0_shutsAmong 19 rfl) ?_
        exact Y_iret (dk KX0_shutsAmong 20 rfl) rfl h
      · have h := hO_f hc h
        refine X_aload_n 0 rfl (dk KX0_shutsAmong 10 rfl) ?_
        refine Y_getR 26 fX0_15 (Nat.le_of_ble_eq_true rfl) rfl rfl (dk KX0_shutsAmong 11 rfl) ?_
        refine X_iload_n 3 rfl (dk KX0_shutsAmong 12 rfl) ?_
        refine Y_iald (Nat.le_of_ble_eq_true rfl) rfl (dk KX0_shutsAmong 13 rfl) h (fun hi1 h => ?_)
        refine X_iconst (dk KX0_shutsAmong 14 rfl) (-1) (by decide) ?_
        refine X_icmp_ne 29 (dk KX0_shutsAmong 15 rfl) (by decide) (fun hc => ?_) (fun hc => ?_)
        · have h := hO_f hc h
          exact tX0_shutsAmong_29 ih x1 x2 x3 σ h
        · have h := hO_t hc h
          refine X_iinc 2 1 [(2, .int (x2 + 1)), (0, .ref 25), (1, .int x1), (3, .int x3)] (dk KX0_shutsAmong 16 rfl) rfl (by decide) (by decide) rfl ?_
          refine X_sub [(0, .ref 25), (1, .int x1), (2, .int (x2 + 1)), (3, .int x3)] [1, 2, 0, 3] rfl ?_
          exact tX0_shutsAmong_29 ih x1 (x2 + 1) x3 σ h
def fX0_shutsAmong (a1 : Int32) (σ : PS) : Option (Int32 × PS) := fX0_shutsAmong_4 FU a1 0 0 σ
set_option maxRecDepth 100000 in
set_option maxHeartbeats 4000000 in
theorem okX0_shutsAmong (a1 : Int32) (σ : PS) (P : Int32 × PS → Prop) (h : hO (fX0_shutsAmong a1 σ) P) : CON g mX0_shutsAmong 0 0 0 [.ref 25, .int a1] (HP σ) (pI P) := by
  refine CON.of (by decide) (by simp [lg_sl, Value.category]) ?_
  show X g _ _ _ _ _ 0 [(0, .ref 25), (1, .int a1)] [] _
  unfold fX0_shutsAmong at h
  refine X_iconst (dk KX0_shutsAmong 0 rfl) 0 (by decide) ?_
  refine X_istore_n [(2, .int 0), (0, .ref 25), (1, .int a1)] (dk KX0_shutsAmong 1 rfl) (by decide) rfl ?_
  refine X_iconst (dk KX0_shutsAmong 2 rfl) 0 (by decide) ?_
  refine X_istore_n [(3, .int 0), (2, .int 0), (0, .ref 25), (1, .int a1)] (dk KX0_shutsAmong 3 rfl) (by decide) rfl ?_
  refine X_sub [(0, .ref 25), (1, .int a1), (2, .int 0), (3, .int 0)] [2, 3, 1, 0] rfl ?_
  exact tX0_shutsAmong_4 FU a1 0 0 σ h

def fX0_isShut (a1 : Int32) (a2 : Int32) (a3 : Int32) (σ : PS) : Option (Int32 × PS) := gd (inb a1 8) (gd (inb a2 60) ((fX8_isWithin (gi σ (rw_ 29 a1) (a2 : Int32).toNatClampNeg) 1 a3 σ).bind (fun qy3 => (fun (y3 : Int32) (σ4 : PS) => gd (is01 y3) (some (y3, σ4))) qy3.1 qy3.2)))
set_option maxRecDepth 100000 in
set_option maxHeartbeats 4000000 in
theorem okX0_isShut (a1 : Int32) (a2 : Int32) (a3 : Int32) (σ : PS) (P : Int32 × PS → Prop) (h : hO (fX0_isShut a1 a2 a3 σ) P) : CON g mX0_isShut 1 0 0 [.ref 25, .int a1, .int a2, .int a3] (HP σ) (pI P) := by
  refine CON.of (by decide) (by simp [lg_sl, Value.category]) ?_
  show X g _ _ _ _ _ 0 [(0, .ref 25), (1, .int a1), (2, .int a2), (3, .int a3)] [] _
  unfold fX0_isShut at h
  refine X_aload_n 0 rfl (dk KX0_isShut 0 rfl) ?_
  refine Y_getR 29 fX0_28 (Nat.le_of_ble_eq_true rfl) rfl rfl (dk KX0_isShut 1 rfl) ?_
  refine X_iload_n 1 rfl (dk KX0_isShut 2 rfl) ?_
  refine Y_aald (rw_ 29 a1) (Nat.le_of_ble_eq_true rfl) rfl (gr29_rf _ _) (dk KX0_isShut 3 rfl) h (fun hi1 h => ?_)
  refine X_iload_n 2 rfl (dk KX0_isShut 4 rfl) ?_
  refine Y_iald (gr29_lt hi1) (gr29_ob hi1) (dk KX0_isShut 5 rfl) h (fun hi2 h => ?_)
  refine X_iconst (dk KX0_isShut 6 rfl) 1 (by decide) ?_
  refine X_iload_n 3 rfl (dk KX0_isShut 7 rfl) ?_
  refine Y_callNI wX0_31 [.int (gi σ (rw_ 29 a1) (a2 : Int32).toNatClampNeg), .int 1, .int a3] [] rfl rfl (Nat.le_of_ble_eq_true rfl) (Nat.le_of_ble_eq_true rfl) (dk KX0_isShut 8 rfl) (fun Pc h => okX8_isWithin _ _ _ _ Pc h) h (fun y3 σ4 e5 h => ?_)
  try dsimp only at h
  exact Y_zret (dk KX0_isShut 9 rfl) rfl (hO_gd h).1 (hO_gd h).2

def fX0_firstBroken_64 (r5 : Int32 → Int32 → Int32 → Int32 → PS → Option (Int32 × PS)) (x1 : Int32) (x2 : Int32) (x3 : Int32) (x4 : Int32) (σ : PS) : Option (Int32 × PS) := r5 x1 x2 x3 (x4 + 1) σ
set_option maxRecDepth 100000 in
set_option maxHeartbeats 4000000 in
theorem tX0_firstBroken_64 {P : Int32 × PS → Prop} {r5 : Int32 → Int32 → Int32 → Int32 → PS → Option (Int32 × PS)} (hr_5 : ∀ (x1 : Int32) (x2 : Int32) (x3 : Int32) (x4 : Int32) (σ : PS), hO (r5 x1 x2 x3 x4 σ) P → X g mX0_firstBroken 0 0 0 (pI P) 5 [(0, .ref 25), (1, .int x1), (2, .int x2), (3, .int x3), (4, .int x4)] [] (HP σ)) (x1 : Int32) (x2 : Int32) (x3 : Int32) (x4 : Int32) (σ : PS) (h : hO (fX0_firstBroken_64 r5 x1 x2 x3 x4 σ) P) : X g mX0_firstBroken 0 0 0 (pI P) 64 [(0, .ref 25), (1, .int x1), (2, .int x2), (3, .int x3), (4, .int x4)] [] (HP σ) := by
  unfold fX0_firstBroken_64 at h
  refine X_iinc 4 1 [(4, .int (x4 + 1)), (0, .ref 25), (1, .int x1), (2, .int x2), (3, .int x3)] (dk KX0_firstBroken 35 rfl) rfl (by decide) (by decide) rfl ?_
  refine X_goto 5 (dk KX0_firstBroken 36 rfl) (by decide) ?_
  refine X_sub [(0, .ref 25), (1, .int x1), (2, .int x2), (3, .int x3), (4, .int (x4 + 1))] [1, 2, 3, 4, 0] rfl ?_
  exact hr_5 x1 x2 x3 (x4 + 1) σ h
def fX0_firstBroken_61 (r5 : Int32 → Int32 → Int32 → Int32 → PS → Option (Int32 × PS)) (x1 : Int32) (x2 : Int32) (x4 : Int32) (σ : PS) : Option (Int32 × PS) := fX0_firstBroken_64 r5 x1 x2 x4 x4 σ
set_option maxRecDepth 100000 in
set_option maxHeartbeats 4000000 in
theorem tX0_firstBroken_61 {P : Int32 × PS → Prop} {r5 : Int32 → Int32 → Int32 → Int32 → PS → Option (Int32 × PS)} (hr_5 : ∀ (x1 : Int32) (x2 : Int32) (x3 : Int32) (x4 : Int32) (σ : PS), hO (r5 x1 x2 x3 x4 σ) P → X g mX0_firstBroken 0 0 0 (pI P) 5 [(0, .ref 25), (1, .int x1), (2, .int x2), (3, .int x3), (4, .int x4)] [] (HP σ)) (x1 : Int32) (x2 : Int32) (x4 : Int32) (σ : PS) (h : hO (fX0_firstBroken_61 r5 x1 x2 x4 σ) P) : X g mX0_firstBroken 0 0 0 (pI P) 61 [(0, .ref 25), (1, .int x1), (2, .int x2), (4, .int x4)] [] (HP σ) := by
  unfold fX0_firstBroken_61 at h
  refine X_iload 3 rfl (dk KX0_firstBroken 33 rfl) ?_
  refine X_istore_n [(3, .int x4), (0, .ref 25), (1, .int x1), (2, .int x2), (4, .int x4)] (dk KX0_firstBroken 34 rfl) (by decide) rfl ?_
  refine X_sub [(0, .ref 25), (1, .int x1), (2, .int x2), (3, .int x4), (4, .int x4)] [1, 2, 3, 0, 4] rfl ?_
  exact tX0_firstBroken_64 hr_5 x1 x2 x4 x4 σ h
def fX0_firstBroken_5 : Nat → Int32 → Int32 → Int32 → Int32 → PS → Option (Int32 × PS)
  | 0, _, _, _, _, _ => none
  | n + 1, x1, x2, x3, x4, σ => (if x2 ≤ x4 then some (x3, σ) else (if 300 ≤ x4 then some (x3, σ) else gd (inb x4 300) ((if (gi σ 26 (x4 : Int32).toNatClampNeg) = x1 then gd (inb x4 300) ((if (gi σ 28 (x4 : Int32).toNatClampNeg) = 0 then (if x3 = (-1) then fX0_firstBroken_61 (fX0_firstBroken_5 n) x1 x2 x4 σ else gd (inb x4 300) (gd (inb x3 300) ((if (gi σ 27 (x3 : Int32).toNatClampNeg) ≤ (gi σ 27 (x4 : Int32).toNatClampNeg) then fX0_firstBroken_64 (fX0_firstBroken_5 n) x1 x2 x3 x4 σ else fX0_firstBroken_61 (fX0_firstBroken_5 n) x1 x2 x4 σ)))) else fX0_firstBroken_64 (fX0_firstBroken_5 n) x1 x2 x3 x4 σ)) else fX0_firstBroken_64 (fX0_firstBroken_5 n) x1 x2 x3 x4 σ))))
set_option maxRecDepth 100000 in
set_option maxHeartbeats 4000000 in
theorem tX0_firstBroken_5 {P : Int32 × PS → Prop} : ∀ (n : Nat) (x1 : Int32) (x2 : Int32) (x3 : Int32) (x4 : Int32) (σ : PS), hO (fX0_firstBroken_5 n x1 x2 x3 x4 σ) P → X g mX0_firstBroken 0 0 0 (pI P) 5 [(0, .ref 25), (1, .int x1), (2, .int x2), (3, .int x3), (4, .int x4)] [] (HP σ) := by
  intro n
  induction n with
  | zero =>
    intro x1 x2 x3 x4 σ h
    rw [fX0_firstBroken_5] at h
    exact (hO_none h).elim
  | succ n ih =>
    intro x1 x2 x3 x4 σ h
    rw [fX0_firstBroken_5] at h
    refine X_iload 4 rfl (dk KX0_firstBroken 4 rfl) ?_
    refine X_iload_n 2 rfl (dk KX0_firstBroken 5 rfl) ?_
    refine X_icmp_ge 70 (dk KX0_firstBroken 6 rfl) (by decide) (fun hc => ?_) (fun hc => ?_)
    · have h := hO_t hc h
      refine X_iload_n 3 rfl (dk KX0_firstBroken 37 rfl) ?_
      exact Y_iret (dk KX0_firstBroken 38 rfl) rfl h
    · have h := hO_f hc h
      refine X_iload 4 rfl (dk KX0_firstBroken 7 rfl) ?_
      refine X_sipush (dk KX0_firstBroken 8 rfl) 300 (by decide) ?_
      refine X_icmp_ge 70 (dk KX0_firstBroken 9 rfl) (by decide) (fun hc => ?_) (fun hc => ?_)
      · have h := hO_t hc h
        refine X_iload_n 3 rfl (dk KX0_firstBroken 37 rfl) ?_
        exact Y_iret (dk KX0_firstBroken 38 rfl) rfl h
      · have h := hO_f hc h
        refine X_aload_n 0 rfl (dk KX0_firstBroken 10 rfl) ?_
        refine Y_getR 26 fX0_15 (Nat.le_of_ble_eq_true rfl) rfl rfl (dk KX0_firstBroken 11 rfl) ?_
        refine X_iload 4 rfl (dk KX0_firstBroken 12 rfl) ?_
        refine Y_iald (Nat.le_of_ble_eq_true rfl) rfl (dk KX0_firstBroken 13 rfl) h (fun hi1 h => ?_)
        refine X_iload_n 1 rfl (dk KX0_firstBroken 14 rfl) ?_
        refine X_icmp_ne 64 (dk KX0_firstBroken 15 rfl) (by decide) (fun hc => ?_) (fun hc => ?_)
        · have h := hO_f hc h
          exact tX0_firstBroken_64 ih x1 x2 x3 x4 σ h
        · have h := hO_t hc h
          refine X_aload_n 0 rfl (dk KX0_firstBroken 16 rfl) ?_
          refine Y_getR 28 fX0_22 (Nat.le_of_ble_eq_true rfl) rfl rfl (dk KX0_firstBroken 17 rfl) ?_
          refine X_iload 4 rfl (dk KX0_firstBroken 18 rfl) ?_
          refine Y_zald (Nat.le_of_ble_eq_true rfl) rfl (dk KX0_firstBroken 19 rfl) h (fun hi2 h => ?_)
          refine X_if_ne 64 (dk KX0_firstBroken 20 rfl) (by decide) (fun hc => ?_) (fun hc => ?_)
          · have h := hO_f hc h
            exact tX0_firstBroken_64 ih x1 x2 x3 x4 σ h
          · have h := hO_t hc h
            refine X_iload_n 3 rfl (dk KX0_firstBroken 21 rfl) ?_
            refine X_iconst (dk KX0_firstBroken 22 rfl) (-1) (by decide) ?_
            refine X_icmp_eq 61 (dk KX0_firstBroken 23 rfl) (by decide) (fun hc => ?_) (fun hc => ?_)
            · have h := hO_t hc h
              refine X_sub [(0, .ref 25), (1, .int x1), (2, .int x2), (4, .int x4)] [0, 1, 2, 4] rfl ?_
              exact tX0_firstBroken_61 ih x1 x2 x4 σ h
            · have h := hO_f hc h
              refine X_aload_n 0 rfl (dk KX0_firstBroken 24 rfl) ?_
              refine Y_getR 27 fX0_19 (Nat.le_of_ble_eq_true rfl) rfl rfl (dk KX0_firstBroken 25 rfl) ?_
              refine X_iload 4 rfl (dk KX0_firstBroken 26 rfl) ?_
              refine Y_iald (Nat.le_of_ble_eq_true rfl) rfl (dk KX0_firstBroken 27 rfl) h (fun hi3 h => ?_)
              refine X_aload_n 0 rfl (dk KX0_firstBroken 28 rfl) ?_
              refine Y_getR 27 fX0_19 (Nat.le_of_ble_eq_true rfl) rfl rfl (dk KX0_firstBroken 29 rfl) ?_
              refine X_iload_n 3 rfl (dk KX0_firstBroken 30 rfl) ?_
              refine Y_iald (Nat.le_of_ble_eq_true rfl) rfl (dk KX0_firstBroken 31 rfl) h (fun hi4 h => ?_)
              refine X_icmp_ge 64 (dk KX0_firstBroken 32 rfl) (by decide) (fun hc => ?_) (fun hc => ?_)
              · have h := hO_t hc h
                exact tX0_firstBroken_64 ih x1 x2 x3 x4 σ h
              · have h := hO_f hc h
                refine X_sub [(0, .ref 25), (1, .int x1), (2, .int x2), (4, .int x4)] [0, 1, 2, 4] rfl ?_
                exact tX0_firstBroken_61 ih x1 x2 x4 σ h
def fX0_firstBroken (a1 : Int32) (a2 : Int32) (σ : PS) : Option (Int32 × PS) := fX0_firstBroken_5 FU a1 a2 (-1) 0 σ
set_option maxRecDepth 100000 in
set_option maxHeartbeats 4000000 in
theorem okX0_firstBroken (a1 : Int32) (a2 : Int32) (σ : PS) (P : Int32 × PS → Prop) (h : hO (fX0_firstBroken a1 a2 σ) P) : CON g mX0_firstBroken 0 0 0 [.ref 25, .int a1, .int a2] (HP σ) (pI P) := by
  refine CON.of (by decide) (by simp [lg_sl, Value.category]) ?_
  show X g _ _ _ _ _ 0 [(0, .ref 25), (1, .int a1), (2, .int a2)] [] _
  unfold fX0_firstBroken at h
  refine X_iconst (dk KX0_firstBroken 0 rfl) (-1) (by decide) ?_
  refine X_istore_n [(3, .int (-1)), (0, .ref 25), (1, .int a1), (2, .int a2)] (dk KX0_firstBroken 1 rfl) (by decide) rfl ?_
  refine X_iconst (dk KX0_firstBroken 2 rfl) 0 (by decide) ?_
  refine X_istore [(4, .int 0), (3, .int (-1)), (0, .ref 25), (1, .int a1), (2, .int a2)] (dk KX0_firstBroken 3 rfl) (by decide) rfl ?_
  refine X_sub [(0, .ref 25), (1, .int a1), (2, .int a2), (3, .int (-1)), (4, .int 0)] [2, 3, 4, 1, 0] rfl ?_
  exact tX0_firstBroken_5 FU a1 a2 (-1) 0 σ h

def fX0_firstSuspectDay_111 (x3 : Int32) (x4 : Int32) (σ : PS) : Option (Int32 × PS) := gd (inb x3 300) ((if x4 = (gi σ 27 (x3 : Int32).toNatClampNeg) then some (x4, σ) else some ((x4 + 1), σ)))
set_option maxRecDepth 100000 in
set_option maxHeartbeats 4000000 in
theorem tX0_firstSuspectDay_111 {P : Int32 × PS → Prop} (x3 : Int32) (x4 : Int32) (σ : PS) (h : hO (fX0_firstSuspectDay_111 x3 x4 σ) P) : X g mX0_firstSuspectDay 1 0 0 (pI P) 111 [(0, .ref 25), (3, .int x3), (4, .int x4)] [] (HP σ) := by
  unfold fX0_firstSuspectDay_111 at h
  refine X_iload 2 rfl (dk KX0_firstSuspectDay 57 rfl) ?_
  refine X_aload_n 0 rfl (dk KX0_firstSuspectDay 58 rfl) ?_
  refine Y_getR 27 fX0_19 (Nat.le_of_ble_eq_true rfl) rfl rfl (dk KX0_firstSuspectDay 59 rfl) ?_
  refine X_iload_n 1 rfl (dk KX0_firstSuspectDay 60 rfl) ?_
  refine Y_iald (Nat.le_of_ble_eq_true rfl) rfl (dk KX0_firstSuspectDay 61 rfl) h (fun hi5 h => ?_)
  refine X_icmp_ne 127 (dk KX0_firstSuspectDay 62 rfl) (by decide) (fun hc => ?_) (fun hc => ?_)
  · have h := hO_f hc h
    refine X_iload 2 rfl (dk KX0_firstSuspectDay 65 rfl) ?_
    refine X_iconst (dk KX0_firstSuspectDay 66 rfl) 1 (by decide) ?_
    refine X_iadd (dk KX0_firstSuspectDay 67 rfl) ?_
    exact Y_iret (dk KX0_firstSuspectDay 68 rfl) rfl h
  · have h := hO_t hc h
    refine X_iload 2 rfl (dk KX0_firstSuspectDay 63 rfl) ?_
    refine X_goto 131 (dk KX0_firstSuspectDay 64 rfl) (by decide) ?_
    exact Y_iret (dk KX0_firstSuspectDay 68 rfl) rfl h
def fX0_firstSuspectDay_105 (r6 : Int32 → Int32 → Int32 → Int32 → Int32 → PS → Option (Int32 × PS)) (x1 : Int32) (x2 : Int32) (x3 : Int32) (x4 : Int32) (x5 : Int32) (σ : PS) : Option (Int32 × PS) := r6 x1 x2 x3 x4 (x5 + 1) σ
set_option maxRecDepth 100000 in
set_option maxHeartbeats 4000000 in
theorem tX0_firstSuspectDay_105 {P : Int32 × PS → Prop} {r6 : Int32 → Int32 → Int32 → Int32 → Int32 → PS → Option (Int32 × PS)} (hr_6 : ∀ (x1 : Int32) (x2 : Int32) (x3 : Int32) (x4 : Int32) (x5 : Int32) (σ : PS), hO (r6 x1 x2 x3 x4 x5 σ) P → X g mX0_firstSuspectDay 1 0 0 (pI P) 6 [(0, .ref 25), (1, .int x1), (2, .int x2), (3, .int x3), (4, .int x4), (5, .int x5)] [] (HP σ)) (x1 : Int32) (x2 : Int32) (x3 : Int32) (x4 : Int32) (x5 : Int32) (σ : PS) (h : hO (fX0_firstSuspectDay_105 r6 x1 x2 x3 x4 x5 σ) P) : X g mX0_firstSuspectDay 1 0 0 (pI P) 105 [(0, .ref 25), (1, .int x1), (2, .int x2), (3, .int x3), (4, .int x4), (5, .int x5)] [] (HP σ) := by
  unfold fX0_firstSuspectDay_105 at h
  refine X_iinc 5 1 [(5, .int (x5 + 1)), (0, .ref 25), (1, .int x1), (2, .int x2), (3, .int x3), (4, .int x4)] (dk KX0_firstSuspectDay 55 rfl) rfl (by decide) (by decide) rfl ?_
  refine X_goto 6 (dk KX0_firstSuspectDay 56 rfl) (by decide) ?_
  refine X_sub [(0, .ref 25), (1, .int x1), (2, .int x2), (3, .int x3), (4, .int x4), (5, .int (x5 + 1))] [1, 2, 3, 4, 5, 0] rfl ?_
  exact hr_6 x1 x2 x3 x4 (x5 + 1) σ h
def fX0_firstSuspectDay_63 (r6 : Int32 → Int32 → Int32 → Int32 → Int32 → PS → Option (Int32 × PS)) (x1 : Int32) (x2 : Int32) (x3 : Int32) (x4 : Int32) (x5 : Int32) (s0 : Int32) (σ : PS) : Option (Int32 × PS) := gd (inb x5 300) ((if (gi σ 26 (x5 : Int32).toNatClampNeg) = x1 then gd (inb x5 300) ((if (gi σ 28 (x5 : Int32).toNatClampNeg) = 0 then fX0_firstSuspectDay_105 r6 x1 x2 x3 x4 x5 σ else (if s0 = 0 then fX0_firstSuspectDay_105 r6 x1 x2 x3 x4 x5 σ else gd (inb x5 300) (fX0_firstSuspectDay_105 r6 x1 x2 x3 (imax x4 (gi σ 27 (x5 : Int32).toNatClampNeg)) x5 σ)))) else fX0_firstSuspectDay_105 r6 x1 x2 x3 x4 x5 σ))
set_option maxRecDepth 100000 in
set_option maxHeartbeats 4000000 in
theorem tX0_firstSuspectDay_63 {P : Int32 × PS → Prop} {r6 : Int32 → Int32 → Int32 → Int32 → Int32 → PS → Option (Int32 × PS)} (hr_6 : ∀ (x1 : Int32) (x2 : Int32) (x3 : Int32) (x4 : Int32) (x5 : Int32) (σ : PS), hO (r6 x1 x2 x3 x4 x5 σ) P → X g mX0_firstSuspectDay 1 0 0 (pI P) 6 [(0, .ref 25), (1, .int x1), (2, .int x2), (3, .int x3), (4, .int x4), (5, .int x5)] [] (HP σ)) (x1 : Int32) (x2 : Int32) (x3 : Int32) (x4 : Int32) (x5 : Int32) (s0 : Int32) (σ : PS) (h : hO (fX0_firstSuspectDay_63 r6 x1 x2 x3 x4 x5 s0 σ) P) : X g mX0_firstSuspectDay 1 0 0 (pI P) 63 [(0, .ref 25), (1, .int x1), (2, .int x2), (3, .int x3), (4, .int x4), (5, .int x5)] [.int s0] (HP σ) := by
  unfold fX0_firstSuspectDay_63 at h
  refine X_istore [(6, .int s0), (0, .ref 25), (1, .int x1), (2, .int x2), (3, .int x3), (4, .int x4), (5, .int x5)] (dk KX0_firstSuspectDay 34 rfl) (by decide) rfl ?_
  refine X_aload_n 1 rfl (dk KX0_firstSuspectDay 35 rfl) ?_
  refine Y_getR 26 fX0_15 (Nat.le_of_ble_eq_true rfl) rfl rfl (dk KX0_firstSuspectDay 36 rfl) ?_
  refine X_iload 6 rfl (dk KX0_firstSuspectDay 37 rfl) ?_
  refine Y_iald (Nat.le_of_ble_eq_true rfl) rfl (dk KX0_firstSuspectDay 38 rfl) h (fun hi6 h => ?_)
  refine X_iload_n 2 rfl (dk KX0_firstSuspectDay 39 rfl) ?_
  refine X_icmp_ne 105 (dk KX0_firstSuspectDay 40 rfl) (by decide) (fun hc => ?_) (fun hc => ?_)
  · have h := hO_f hc h
    refine X_sub [(0, .ref 25), (1, .int x1), (2, .int x2), (3, .int x3), (4, .int x4), (5, .int x5)] [1, 2, 3, 4, 5, 6] rfl ?_
    exact tX0_firstSuspectDay_105 hr_6 x1 x2 x3 x4 x5 σ h
  · have h := hO_t hc h
    refine X_aload_n 1 rfl (dk KX0_firstSuspectDay 41 rfl) ?_
    refine Y_getR 28 fX0_22 (Nat.le_of_ble_eq_true rfl) rfl rfl (dk KX0_firstSuspectDay 42 rfl) ?_
    refine X_iload 6 rfl (dk KX0_firstSuspectDay 43 rfl) ?_
    refine Y_zald (Nat.le_of_ble_eq_true rfl) rfl (dk KX0_firstSuspectDay 44 rfl) h (fun hi7 h => ?_)
    refine X_if_eq 105 (dk KX0_firstSuspectDay 45 rfl) (by decide) (fun hc => ?_) (fun hc => ?_)
    · have h := hO_t hc h
      refine X_sub [(0, .ref 25), (1, .int x1), (2, .int x2), (3, .int x3), (4, .int x4), (5, .int x5)] [1, 2, 3, 4, 5, 6] rfl ?_
      exact tX0_firstSuspectDay_105 hr_6 x1 x2 x3 x4 x5 σ h
    · have h := hO_f hc h
      refine X_iload 0 rfl (dk KX0_firstSuspectDay 46 rfl) ?_
      refine X_if_eq 105 (dk KX0_firstSuspectDay 47 rfl) (by decide) (fun hc => ?_) (fun hc => ?_)
      · have h := hO_t hc h
        refine X_sub [(0, .ref 25), (1, .int x1), (2, .int x2), (3, .int x3), (4, .int x4), (5, .int x5)] [1, 2, 3, 4, 5, 6] rfl ?_
        exact tX0_firstSuspectDay_105 hr_6 x1 x2 x3 x4 x5 σ h
      · have h := hO_f hc h
        refine X_iload 5 rfl (dk KX0_firstSuspectDay 48 rfl) ?_
        refine X_aload_n 1 rfl (dk KX0_firstSuspectDay 49 rfl) ?_
        refine Y_getR 27 fX0_19 (Nat.le_of_ble_eq_true rfl) rfl rfl (dk KX0_firstSuspectDay 50 rfl) ?_
        refine X_iload 6 rfl (dk KX0_firstSuspectDay 51 rfl) ?_
        refine Y_iald (Nat.le_of_ble_eq_true rfl) rfl (dk KX0_firstSuspectDay 52 rfl) h (fun hi8 h => ?_)
        refine Y_max (Nat.le_of_ble_eq_true rfl) (Nat.le_of_ble_eq_true rfl) mlX0_39 (dk KX0_firstSuspectDay 53 rfl) ?_
        refine X_istore [(4, .int (imax x4 (gi σ 27 (x5 : Int32).toNatClampNeg))), (6, .int s0), (0, .ref 25), (1, .int x1), (2, .int x2), (3, .int x3), (5, .int x5)] (dk KX0_firstSuspectDay 54 rfl) (by decide) rfl ?_
        refine X_sub [(0, .ref 25), (1, .int x1), (2, .int x2), (3, .int x3), (4, .int (imax x4 (gi σ 27 (x5 : Int32).toNatClampNeg))), (5, .int x5)] [2, 3, 4, 5, 0, 6] rfl ?_
        exact tX0_firstSuspectDay_105 hr_6 x1 x2 x3 (imax x4 (gi σ 27 (x5 : Int32).toNatClampNeg)) x5 σ h
def fX0_firstSuspectDay_58 (r6 : Int32 → Int32 → Int32 → Int32 → Int32 → PS → Option (Int32 × PS)) (x1 : Int32) (x2 : Int32) (x3 : Int32) (x4 : Int32) (x5 : Int32) (σ : PS) : Option (Int32 × PS) := fX0_firstSuspectDay_63 r6 x1 x2 x3 x4 x5 1 σ
set_option maxRecDepth 100000 in
set_option maxHeartbeats 4000000 in
theorem tX0_firstSuspectDay_58 {P : Int32 × PS → Prop} {r6 : Int32 → Int32 → Int32 → Int32 → Int32 → PS → Option (Int32 × PS)} (hr_6 : ∀ (x1 : Int32) (x2 : Int32) (x3 : Int32) (x4 : Int32) (x5 : Int32) (σ : PS), hO (r6 x1 x2 x3 x4 x5 σ) P → X g mX0_firstSuspectDay 1 0 0 (pI P) 6 [(0, .ref 25), (1, .int x1), (2, .int x2), (3, .int x3), (4, .int x4), (5, .int x5)] [] (HP σ)) (x1 : Int32) (x2 : Int32) (x3 : Int32) (x4 : Int32) (x5 : Int32) (σ : PS) (h : hO (fX0_firstSuspectDay_58 r6 x1 x2 x3 x4 x5 σ) P) : X g mX0_firstSuspectDay 1 0 0 (pI P) 58 [(0, .ref 25), (1, .int x1), (2, .int x2), (3, .int x3), (4, .int x4), (5, .int x5)] [] (HP σ) := by
  unfold fX0_firstSuspectDay_58 at h
  refine X_iconst (dk KX0_firstSuspectDay 31 rfl) 1 (by decide) ?_
  refine X_goto 63 (dk KX0_firstSuspectDay 32 rfl) (by decide) ?_
  exact tX0_firstSuspectDay_63 hr_6 x1 x2 x3 x4 x5 1 σ h
def fX0_firstSuspectDay_62 (r6 : Int32 → Int32 → Int32 → Int32 → Int32 → PS → Option (Int32 × PS)) (x1 : Int32) (x2 : Int32) (x3 : Int32) (x4 : Int32) (x5 : Int32) (σ : PS) : Option (Int32 × PS) := fX0_firstSuspectDay_63 r6 x1 x2 x3 x4 x5 0 σ
set_option maxRecDepth 100000 in
set_option maxHeartbeats 4000000 in
theorem tX0_firstSuspectDay_62 {P : Int32 × PS → Prop} {r6 : Int32 → Int32 → Int32 → Int32 → Int32 → PS → Option (Int32 × PS)} (hr_6 : ∀ (x1 : Int32) (x2 : Int32) (x3 : Int32) (x4 : Int32) (x5 : Int32) (σ : PS), hO (r6 x1 x2 x3 x4 x5 σ) P → X g mX0_firstSuspectDay 1 0 0 (pI P) 6 [(0, .ref 25), (1, .int x1), (2, .int x2), (3, .int x3), (4, .int x4), (5, .int x5)] [] (HP σ)) (x1 : Int32) (x2 : Int32) (x3 : Int32) (x4 : Int32) (x5 : Int32) (σ : PS) (h : hO (fX0_firstSuspectDay_62 r6 x1 x2 x3 x4 x5 σ) P) : X g mX0_firstSuspectDay 1 0 0 (pI P) 62 [(0, .ref 25), (1, .int x1), (2, .int x2), (3, .int x3), (4, .int x4), (5, .int x5)] [] (HP σ) := by
  unfold fX0_firstSuspectDay_62 at h
  refine X_iconst (dk KX0_firstSuspectDay 33 rfl) 0 (by decide) ?_
  exact tX0_firstSuspectDay_63 hr_6 x1 x2 x3 x4 x5 0 σ h
def fX0_firstSuspectDay_6 : Nat → Int32 → Int32 → Int32 → Int32 → Int32 → PS → Option (Int32 × PS)
  | 0, _, _, _, _, _, _ => none
  | n + 1, x1, x2, x3, x4, x5, σ => (if x2 ≤ x5 then fX0_firstSuspectDay_111 x3 x4 σ else (if 300 ≤ x5 then fX0_firstSuspectDay_111 x3 x4 σ else gd (inb x5 300) (gd (inb x3 300) ((if (gi σ 27 (x5 : Int32).toNatClampNeg) < (gi σ 27 (x3 : Int32).toNatClampNeg) then fX0_firstSuspectDay_58 (fX0_firstSuspectDay_6 n) x1 x2 x3 x4 x5 σ else gd (inb x5 300) (gd (inb x3 300) ((if (gi σ 27 (x5 : Int32).toNatClampNeg) = (gi σ 27 (x3 : Int32).toNatClampNeg) then (if x3 ≤ x5 then fX0_firstSuspectDay_62 (fX0_firstSuspectDay_6 n) x1 x2 x3 x4 x5 σ else fX0_firstSuspectDay_58 (fX0_firstSuspectDay_6 n) x1 x2 x3 x4 x5 σ) else fX0_firstSuspectDay_62 (fX0_firstSuspectDay_6 n) x1 x2 x3 x4 x5 σ))))))))
set_option maxRecDepth 100000 in
set_option maxHeartbeats 4000000 in
theorem tX0_firstSuspectDay_6 {P : Int32 × PS → Prop} : ∀ (n : Nat) (x1 : Int32) (x2 : Int32) (x3 : Int32) (x4 : Int32) (x5 : Int32) (σ : PS), hO (fX0_firstSuspectDay_6 n x1 x2 x3 x4 x5 σ) P → X g mX0_firstSuspectDay 1 0 0 (pI P) 6 [(0, .ref 25), (1, .int x1), (2, .int x2), (3, .int x3), (4, .int x4), (5, .int x5)] [] (HP σ) := by
  intro n
  induction n with
  | zero =>
    intro x1 x2 x3 x4 x5 σ h
    rw [fX0_firstSuspectDay_6] at h
    exact (hO_none h).elim
  | succ n ih =>
    intro x1 x2 x3 x4 x5 σ h
    rw [fX0_firstSuspectDay_6] at h
    refine X_iload 5 rfl (dk KX0_firstSuspectDay 4 rfl) ?_
    refine X_iload_n 2 rfl (dk KX0_firstSuspectDay 5 rfl) ?_
    refine X_icmp_ge 111 (dk KX0_firstSuspectDay 6 rfl) (by decide) (fun hc => ?_) (fun hc => ?_)
    · have h := hO_t hc h
      refine X_sub [(0, .ref 25), (3, .int x3), (4, .int x4)] [0, 3, 4] rfl ?_
      exact tX0_firstSuspectDay_111 x3 x4 σ h
    · have h := hO_f hc h
      refine X_iload 5 rfl (dk KX0_firstSuspectDay 7 rfl) ?_
      refine X_sipush (dk KX0_firstSuspectDay 8 rfl) 300 (by decide) ?_
      refine X_icmp_ge 111 (dk KX0_firstSuspectDay 9 rfl) (by decide) (fun hc => ?_) (fun hc => ?_)
      · have h := hO_t hc h
        refine X_sub [(0, .ref 25), (3, .int x3), (4, .int x4)] [0, 3, 4] rfl ?_
        exact tX0_firstSuspectDay_111 x3 x4 σ h
      · have h := hO_f hc h
        refine X_aload_n 0 rfl (dk KX0_firstSuspectDay 10 rfl) ?_
        refine Y_getR 27 fX0_19 (Nat.le_of_ble_eq_true rfl) rfl rfl (dk KX0_firstSuspectDay 11 rfl) ?_
        refine X_iload 5 rfl (dk KX0_firstSuspectDay 12 rfl) ?_
        refine Y_iald (Nat.le_of_ble_eq_true rfl) rfl (dk KX0_firstSuspectDay 13 rfl) h (fun hi1 h => ?_)
        refine X_aload_n 0 rfl (dk KX0_firstSuspectDay 14 rfl) ?_
        refine Y_getR 27 fX0_19 (Nat.le_of_ble_eq_true rfl) rfl rfl (dk KX0_firstSuspectDay 15 rfl) ?_
        refine X_iload_n 3 rfl (dk KX0_firstSuspectDay 16 rfl) ?_
        refine Y_iald (Nat.le_of_ble_eq_true rfl) rfl (dk KX0_firstSuspectDay 17 rfl) h (fun hi2 h => ?_)
        refine X_icmp_lt 58 (dk KX0_firstSuspectDay 18 rfl) (by decide) (fun hc => ?_) (fun hc => ?_)
        · have h := hO_t hc h
          exact tX0_firstSuspectDay_58 ih x1 x2 x3 x4 x5 σ h
        · have h := hO_f hc h
          refine X_aload_n 0 rfl (dk KX0_firstSuspectDay 19 rfl) ?_
          refine Y_getR 27 fX0_19 (Nat.le_of_ble_eq_true rfl) rfl rfl (dk KX0_firstSuspectDay 20 rfl) ?_
          refine X_iload 5 rfl (dk KX0_firstSuspectDay 21 rfl) ?_
          refine Y_iald (Nat.le_of_ble_eq_true rfl) rfl (dk KX0_firstSuspectDay 22 rfl) h (fun hi3 h => ?_)
          refine X_aload_n 0 rfl (dk KX0_firstSuspectDay 23 rfl) ?_
          refine Y_getR 27 fX0_19 (Nat.le_of_ble_eq_true rfl) rfl rfl (dk KX0_firstSuspectDay 24 rfl) ?_
          refine X_iload_n 3 rfl (dk KX0_firstSuspectDay 25 rfl) ?_
          refine Y_iald (Nat.le_of_ble_eq_true rfl) rfl (dk KX0_firstSuspectDay 26 rfl) h (fun hi4 h => ?_)
          refine X_icmp_ne 62 (dk KX0_firstSuspectDay 27 rfl) (by decide) (fun hc => ?_) (fun hc => ?_)
          · have h := hO_f hc h
            exact tX0_firstSuspectDay_62 ih x1 x2 x3 x4 x5 σ h
          · have h := hO_t hc h
            refine X_iload 5 rfl (dk KX0_firstSuspectDay 28 rfl) ?_
            refine X_iload_n 3 rfl (dk KX0_firstSuspectDay 29 rfl) ?_
            refine X_icmp_ge 62 (dk KX0_firstSuspectDay 30 rfl) (by decide) (fun hc => ?_) (fun hc => ?_)
            · have h := hO_t hc h
              exact tX0_firstSuspectDay_62 ih x1 x2 x3 x4 x5 σ h
            · have h := hO_f hc h
              exact tX0_firstSuspectDay_58 ih x1 x2 x3 x4 x5 σ h
def fX0_firstSuspectDay (a1 : Int32) (a2 : Int32) (a3 : Int32) (σ : PS) : Option (Int32 × PS) := fX0_firstSuspectDay_6 FU a1 a2 a3 (-1) 0 σ
set_option maxRecDepth 100000 in
set_option maxHeartbeats 4000000 in
theorem okX0_firstSuspectDay (a1 : Int32) (a2 : Int32) (a3 : Int32) (σ : PS) (P : Int32 × PS → Prop) (h : hO (fX0_firstSuspectDay a1 a2 a3 σ) P) : CON g mX0_firstSuspectDay 1 0 0 [.ref 25, .int a1, .int a2, .int a3] (HP σ) (pI P) := by
  refine CON.of (by decide) (by simp [lg_sl, Value.category]) ?_
  show X g _ _ _ _ _ 0 [(0, .ref 25), (1, .int a1), (2, .int a2), (3, .int a3)] [] _
  unfold fX0_firstSuspectDay at h
  refine X_iconst (dk KX0_firstSuspectDay 0 rfl) (-1) (by decide) ?_
  refine X_istore [(4, .int (-1)), (0, .ref 25), (1, .int a1), (2, .int a2), (3, .int a3)] (dk KX0_firstSuspectDay 1 rfl) (by decide) rfl ?_
  refine X_iconst (dk KX0_firstSuspectDay 2 rfl) 0 (by decide) ?_
  refine X_istore [(5, .int 0), (4, .int (-1)), (0, .ref 25), (1, .int a1), (2, .int a2), (3, .int a3)] (dk KX0_firstSuspectDay 3 rfl) (by decide) rfl ?_
  refine X_sub [(0, .ref 25), (1, .int a1), (2, .int a2), (3, .int a3), (4, .int (-1)), (5, .int 0)] [2, 3, 4, 5, 1, 0] rfl ?_
  exact tX0_firstSuspectDay_6 FU a1 a2 a3 (-1) 0 σ h

end G
