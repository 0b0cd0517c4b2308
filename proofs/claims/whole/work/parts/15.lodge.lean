section G
variable {g : GP}
def fX3_admit_65 (x1 : Int32) (x2 : Int32) (x3 : Int32) (σ : PS) : Option (PS) := gd (inb x3 6) (gd (inb x3 6) (some (sI (sI (sI σ 108 (x3 : Int32).toNatClampNeg x1) 109 (x3 : Int32).toNatClampNeg x2) 107 2 ((gi (sI (sI σ 108 (x3 : Int32).toNatClampNeg x1) 109 (x3 : Int32).toNatClampNeg x2) 107 2) + 1))))
set_option maxRecDepth 100000 in
set_option maxHeartbeats 4000000 in
theorem tX3_admit_65 {P : PS → Prop} (x1 : Int32) (x2 : Int32) (x3 : Int32) (σ : PS) (h : hO (fX3_admit_65 x1 x2 x3 σ) P) : X g mX3_admit 0 0 0 (pV P) 65 [(0, .ref 107), (1, .int x1), (2, .int x2), (3, .int x3)] [] (HP σ) := by
  unfold fX3_admit_65 at h
  refine X_aload_n 0 rfl (dk KX3_admit 40 rfl) ?_
  refine Y_getR 108 fX3_18 (Nat.le_of_ble_eq_true rfl) rfl rfl (dk KX3_admit 41 rfl) ?_
  refine X_iload_n 3 rfl (dk KX3_admit 42 rfl) ?_
  refine X_iload_n 1 rfl (dk KX3_admit 43 rfl) ?_
  refine Y_iast (Nat.le_of_ble_eq_true rfl) rfl (dk KX3_admit 44 rfl) h (fun hi6 h => ?_)
  refine X_aload_n 0 rfl (dk KX3_admit 45 rfl) ?_
  refine Y_getR 109 fX3_22 (Nat.le_of_ble_eq_true rfl) rfl rfl (dk KX3_admit 46 rfl) ?_
  refine X_iload_n 3 rfl (dk KX3_admit 47 rfl) ?_
  refine X_iload_n 2 rfl (dk KX3_admit 48 rfl) ?_
  refine Y_iast (Nat.le_of_ble_eq_true rfl) rfl (dk KX3_admit 49 rfl) h (fun hi7 h => ?_)
  refine X_aload_n 0 rfl (dk KX3_admit 50 rfl) ?_
  refine X_dup (dk KX3_admit 51 rfl) rfl ?_
  refine Y_getI fX3_15 (Nat.le_of_ble_eq_true rfl) rfl (dk KX3_admit 52 rfl) ?_
  refine X_iconst (dk KX3_admit 53 rfl) 1 (by decide) ?_
  refine X_iadd (dk KX3_admit 54 rfl) ?_
  refine Y_putI fX3_15 rfl (Nat.le_of_ble_eq_true rfl) rfl (dk KX3_admit 55 rfl) ?_
  exact Y_vret (dk KX3_admit 56 rfl) rfl h
def fX3_admit_15 : Nat → Int32 → Int32 → Int32 → PS → Option (PS)
  | 0, _, _, _, _ => none
  | n + 1, x1, x2, x3, σ => (if x3 ≤ 0 then fX3_admit_65 x1 x2 x3 σ else gd (inb (x3 - 1) 6) ((if x2 ≤ (gi σ 109 ((x3 - 1) : Int32).toNatClampNeg) then fX3_admit_65 x1 x2 x3 σ else gd (inb (x3 - 1) 6) (gd (inb x3 6) (gd (inb (x3 - 1) 6) (gd (inb x3 6) (fX3_admit_15 n x1 x2 (x3 + (-1)) (sI (sI σ 108 (x3 : Int32).toNatClampNeg (gi σ 108 ((x3 - 1) : Int32).toNatClampNeg)) 109 (x3 : Int32).toNatClampNeg (gi (sI σ 108 (x3 : Int32).toNatClampNeg (gi σ 108 ((x3 - 1) : Int32).toNatClampNeg)) 109 ((x3 - 1) : Int32).toNatClampNeg)))))))))
set_option maxRecDepth 100000 in
set_option maxHeartbeats 4000000 in
theorem tX3_admit_15 {P : PS → Prop} : ∀ (n : Nat) (x1 : Int32) (x2 : Int32) (x3 : Int32) (σ : PS), hO (fX3_admit_15 n x1 x2 x3 σ) P → X g mX3_admit 0 0 0 (pV P) 15 [(0, .ref 107), (1, .int x1), (2, .int x2), (3, .int x3)] [] (HP σ) := by
  intro n
  induction n with
  | zero =>
    intro x1 x2 x3 σ h
    rw [fX3_admit_15] at h
    exact (hO_none h).elim
  | succ n ih =>
    intro x1 x2 x3 σ h
    rw [fX3_admit_15] at h
    refine X_iload_n 3 rfl (dk KX3_admit 8 rfl) ?_
    refine X_if_le 65 (dk KX3_admit 9 rfl) (by decide) (fun hc => ?_) (fun hc => ?_)
    · have h := hO_t hc h
      exact tX3_admit_65 x1 x2 x3 σ h
    · have h := hO_f hc h
      refine X_aload_n 0 rfl (dk KX3_admit 10 rfl) ?_
      refine Y_getR 109 fX3_22 (Nat.le_of_ble_eq_true rfl) rfl rfl (dk KX3_admit 11 rfl) ?_
      refine X_iload_n 3 rfl (dk KX3_admit 12 rfl) ?_
      refine X_iconst (dk KX3_admit 13 rfl) 1 (by decide) ?_
      refine X_isub (dk KX3_admit 14 rfl) ?_
      refine Y_iald (Nat.le_of_ble_eq_true rfl) rfl (dk KX3_admit 15 rfl) h (fun hi1 h => ?_)
      refine X_iload_n 2 rfl (dk KX3_admit 16 rfl) ?_
      refine X_icmp_ge 65 (dk KX3_admit 17 rfl) (by decide) (fun hc => ?_) (fun hc => ?_)
      · have h := hO_t hc h
        exact tX3_admit_65 x1 x2 x3 σ h
      · have h := hO_f hc h
        refine X_aload_n 0 rfl (dk KX3_admit 18 rfl) ?_
        refine Y_getR 108 fX3_18 (Nat.le_of_ble_eq_true rfl) rfl rfl (dk KX3_admit 19 rfl) ?_
        refine X_iload_n 3 rfl (dk KX3_admit 20 rfl) ?_
        refine X_aload_n 0 rfl (dk KX3_admit 21 rfl) ?_
        refine Y_getR 108 fX3_18 (Nat.le_of_ble_eq_true rfl) rfl rfl (dk KX3_admit 22 rfl) ?_
        refine X_iload_n 3 rfl (dk KX3_admit 23 rfl) ?_
        refine X_iconst (dk KX3_admit 24 rfl) 1 (by decide) ?_
        refine X_isub (dk KX3_admit 25 rfl) ?_
        refine Y_iald (Nat.le_of_ble_eq_true rfl) rfl (dk KX3_admit 26 rfl) h (fun hi2 h => ?_)
        refine Y_iast (Nat.le_of_ble_eq_true rfl) rfl (dk KX3_admit 27 rfl) h (fun hi3 h => ?_)
        refine X_aload_n 0 rfl (dk KX3_admit 28 rfl) ?_
        refine Y_getR 109 fX3_22 (Nat.le_of_ble_eq_true rfl) rfl rfl (dk KX3_admit 29 rfl) ?_
        refine X_iload_n 3 rfl (dk KX3_admit 30 rfl) ?_
        refine X_aload_n 0 rfl (dk KX3_admit 31 rfl) ?_
        refine Y_getR 109 fX3_22 (Nat.le_of_ble_eq_true rfl) rfl rfl (dk KX3_admit 32 rfl) ?_
        refine X_iload_n 3 rfl (dk KX3_admit 33 rfl) ?_
        refine X_iconst (dk KX3_admit 34 rfl) 1 (by decide) ?_
        refine X_isub (dk KX3_admit 35 rfl) ?_
        refine Y_iald (Nat.le_of_ble_eq_true rfl) rfl (dk KX3_admit 36 rfl) h (fun hi4 h => ?_)
        refine Y_iast (Nat.le_of_ble_eq_true rfl) rfl (dk KX3_admit 37 rfl) h (fun hi5 h => ?_)
        refine X_iinc 3 (-1) [(3, .int (x3 + (-1))), (0, .ref 107), (1, .int x1), (2, .int x2)] (dk KX3_admit 38 rfl) rfl (by decide) (by decide) rfl ?_
        refine X_goto 15 (dk KX3_admit 39 rfl) (by decide) ?_
        refine X_sub [(0, .ref 107), (1, .int x1), (2, .int x2), (3, .int (x3 + (-1)))] [1, 2, 3, 0] rfl ?_
        exact ih x1 x2 (x3 + (-1)) (sI (sI σ 108 (x3 : Int32).toNatClampNeg (gi σ 108 ((x3 - 1) : Int32).toNatClampNeg)) 109 (x3 : Int32).toNatClampNeg (gi (sI σ 108 (x3 : Int32).toNatClampNeg (gi σ 108 ((x3 - 1) : Int32).toNatClampNeg)) 109 ((x3 - 1) : Int32).toNatClampNeg)) h
def fX3_admit (a1 : Int32) (a2 : Int32) (σ : PS) : Option (PS) := (if (gi σ 107 2) < 6 then fX3_admit_15 FU a1 a2 (gi σ 107 2) σ else some σ)
set_option maxRecDepth 100000 in
set_option maxHeartbeats 4000000 in
theorem okX3_admit (a1 : Int32) (a2 : Int32) (σ : PS) (P : PS → Prop) (h : hO (fX3_admit a1 a2 σ) P) : CON g mX3_admit 0 0 0 [.ref 107, .int a1, .int a2] (HP σ) (pV P) := by
  refine CON.of (by decide) (by simp [lg_sl, Value.category]) ?_
  show X g _ _ _ _ _ 0 [(0, .ref 107), (1, .int a1), (2, .int a2)] [] _
  unfold fX3_admit at h
  refine X_aload_n 0 rfl (dk KX3_admit 0 rfl) ?_
  refine Y_getI fX3_15 (Nat.le_of_ble_eq_true rfl) rfl (dk KX3_admit 1 rfl) ?_
  refine X_bipush (dk KX3_admit 2 rfl) 6 (by decide) ?_
  refine X_icmp_lt 10 (dk KX3_admit 3 rfl) (by decide) (fun hc => ?_) (fun hc => ?_)
  · have h := hO_t hc h
    refine X_aload_n 0 rfl (dk KX3_admit 5 rfl) ?_
    refine Y_getI fX3_15 (Nat.le_of_ble_eq_true rfl) rfl (dk KX3_admit 6 rfl) ?_
    refine X_istore_n [(3, .int (gi σ 107 2)), (0, .ref 107), (1, .int a1), (2, .int a2)] (dk KX3_admit 7 rfl) (by decide) rfl ?_
    refine X_sub [(0, .ref 107), (1, .int a1), (2, .int a2), (3, .int (gi σ 107 2))] [1, 2, 3, 0] rfl ?_
    exact tX3_admit_15 FU a1 a2 (gi σ 107 2) σ h
  · have h := hO_f hc h
    exact Y_vret (dk KX3_admit 4 rfl) rfl h

def fX3_isOpenTo_27 (x1 : Int32) (x2 : Int32) (σ : PS) : Option (Int32 × PS) := gd (inb x1 3) (gd (inb x2 6) (gd (inb (gi σ 107 1) 8) (gd (inb x1 3) ((if (gi σ (rw_ 8 (gi σ 107 1)) (x1 : Int32).toNatClampNeg) < ((gi σ 114 (x1 : Int32).toNatClampNeg) + (gi σ 19 (x2 : Int32).toNatClampNeg)) then some (0, σ) else some (1, σ))))))
set_option maxRecDepth 100000 in
set_option maxHeartbeats 4000000 in
theorem tX3_isOpenTo_27 {P : Int32 × PS → Prop} (x1 : Int32) (x2 : Int32) (σ : PS) (h : hO (fX3_isOpenTo_27 x1 x2 σ) P) : X g mX3_isOpenTo 0 0 0 (pI P) 27 [(0, .ref 107), (1, .int x1), (2, .int x2)] [] (HP σ) := by
  unfold fX3_isOpenTo_27 at h
  refine X_aload_n 0 rfl (dk KX3_isOpenTo 15 rfl) ?_
  refine Y_getR 114 fX3_40 (Nat.le_of_ble_eq_true rfl) rfl rfl (dk KX3_isOpenTo 16 rfl) ?_
  refine X_iload_n 1 rfl (dk KX3_isOpenTo 17 rfl) ?_
  refine Y_iald (Nat.le_of_ble_eq_true rfl) rfl (dk KX3_isOpenTo 18 rfl) h (fun hi4 h => ?_)
  refine X_aload_n 0 rfl (dk KX3_isOpenTo 19 rfl) ?_
  refine Y_getR 3 fX3_46 (Nat.le_of_ble_eq_true rfl) rfl rfl (dk KX3_isOpenTo 20 rfl) ?_
  refine Y_getR 19 fX3_75 (Nat.le_of_ble_eq_true rfl) rfl rfl (dk KX3_isOpenTo 21 rfl) ?_
  refine X_iload_n 2 rfl (dk KX3_isOpenTo 22 rfl) ?_
  refine Y_iald (Nat.le_of_ble_eq_true rfl) rfl (dk KX3_isOpenTo 23 rfl) h (fun hi5 h => ?_)
  refine X_iadd (dk KX3_isOpenTo 24 rfl) ?_
  refine X_aload_n 0 rfl (dk KX3_isOpenTo 25 rfl) ?_
  refine Y_getR 3 fX3_46 (Nat.le_of_ble_eq_true rfl) rfl rfl (dk KX3_isOpenTo 26 rfl) ?_
  refine Y_getR 8 fX3_77 (Nat.le_of_ble_eq_true rfl) rfl rfl (dk KX3_isOpenTo 27 rfl) ?_
  refine X_aload_n 0 rfl (dk KX3_isOpenTo 28 rfl) ?_
  refine Y_getI fX3_9 (Nat.le_of_ble_eq_true rfl) rfl (dk KX3_isOpenTo 29 rfl) ?_
  refine Y_aald (rw_ 8 (gi σ 107 1)) (Nat.le_of_ble_eq_true rfl) rfl (gr8_rf _ _) (dk KX3_isOpenTo 30 rfl) h (fun hi6 h => ?_)
  refine X_iload_n 1 rfl (dk KX3_isOpenTo 31 rfl) ?_
  refine Y_iald (gr8_lt hi6) (gr8_ob hi6) (dk KX3_isOpenTo 32 rfl) h (fun hi7 h => ?_)
  refine X_icmp_gt 64 (dk KX3_isOpenTo 33 rfl) (by decide) (fun hc => ?_) (fun hc => ?_)
  · have h := hO_t hc h
    refine X_iconst (dk KX3_isOpenTo 36 rfl) 0 (by decide) ?_
    exact Y_zret (dk KX3_isOpenTo 37 rfl) rfl (by decide) h
  · have h := hO_f hc h
    refine X_iconst (dk KX3_isOpenTo 34 rfl) 1 (by decide) ?_
    refine X_goto 65 (dk KX3_isOpenTo 35 rfl) (by decide) ?_
    exact Y_zret (dk KX3_isOpenTo 37 rfl) rfl (by decide) h
def fX3_isOpenTo (a1 : Int32) (a2 : Int32) (σ : PS) : Option (Int32 × PS) := gd (inb a1 3) ((if (gi σ 113 (a1 : Int32).toNatClampNeg) = 0 then fX3_isOpenTo_27 a1 a2 σ else gd (inb a1 3) (gd (inb a2 6) ((if (gi σ 115 (a1 : Int32).toNatClampNeg) = (gi σ 17 (a2 : Int32).toNatClampNeg) then fX3_isOpenTo_27 a1 a2 σ else some (0, σ))))))
set_option maxRecDepth 100000 in
set_option maxHeartbeats 4000000 in
theorem okX3_isOpenTo (a1 : Int32) (a2 : Int32) (σ : PS) (P : Int32 × PS → Prop) (h : hO (fX3_isOpenTo a1 a2 σ) P) : CON g mX3_isOpenTo 0 0 0 [.ref 107, .int a1, .int a2] (HP σ) (pI P) := by
  refine CON.of (by decide) (by simp [lg_sl, Value.category]) ?_
  show X g _ _ _ _ _ 0 [(0, .ref 107), (1, .int a1), (2, .int a2)] [] _
  unfold fX3_isOpenTo at h
  refine X_aload_n 0 rfl (dk KX3_isOpenTo 0 rfl) ?_
  refine Y_getR 113 fX3_37 (Nat.le_of_ble_eq_true rfl) rfl rfl (dk KX3_isOpenTo 1 rfl) ?_
  refine X_iload_n 1 rfl (dk KX3_isOpenTo 2 rfl) ?_
  refine Y_iald (Nat.le_of_ble_eq_true rfl) rfl (dk KX3_isOpenTo 3 rfl) h (fun hi1 h => ?_)
  refine X_if_eq 27 (dk KX3_isOpenTo 4 rfl) (by decide) (fun hc => ?_) (fun hc => ?_)
  · have h := hO_t hc h
    exact tX3_isOpenTo_27 a1 a2 σ h
  · have h := hO_f hc h
    refine X_aload_n 0 rfl (dk KX3_isOpenTo 5 rfl) ?_
    refine Y_getR 115 fX3_43 (Nat.le_of_ble_eq_true rfl) rfl rfl (dk KX3_isOpenTo 6 rfl) ?_
    refine X_iload_n 1 rfl (dk KX3_isOpenTo 7 rfl) ?_
    refine Y_iald (Nat.le_of_ble_eq_true rfl) rfl (dk KX3_isOpenTo 8 rfl) h (fun hi2 h => ?_)
    refine X_aload_n 0 rfl (dk KX3_isOpenTo 9 rfl) ?_
    refine Y_getR 3 fX3_46 (Nat.le_of_ble_eq_true rfl) rfl rfl (dk KX3_isOpenTo 10 rfl) ?_
    refine Y_getR 17 fX3_76 (Nat.le_of_ble_eq_true rfl) rfl rfl (dk KX3_isOpenTo 11 rfl) ?_
    refine X_iload_n 2 rfl (dk KX3_isOpenTo 12 rfl) ?_
    refine Y_iald (Nat.le_of_ble_eq_true rfl) rfl (dk KX3_isOpenTo 13 rfl) h (fun hi3 h => ?_)
    refine X_icmp_ne 64 (dk KX3_isOpenTo 14 rfl) (by decide) (fun hc => ?_) (fun hc => ?_)
    · have h := hO_f hc h
      refine X_iconst (dk KX3_isOpenTo 36 rfl) 0 (by decide) ?_
      exact Y_zret (dk KX3_isOpenTo 37 rfl) rfl (by decide) h
    · have h := hO_t hc h
      exact tX3_isOpenTo_27 a1 a2 σ h

def fX3_fits_153 (rf : Int32 → Int32 → PS → Option (Int32 × PS)) (r23 : Int32 → Int32 → Int32 → Int32 → PS → Option (Int32 × PS)) (x1 : Int32) (x2 : Int32) (x3 : Int32) (x4 : Int32) (σ : PS) : Option (Int32 × PS) := r23 x1 x2 x3 (x4 + 1) σ
set_option maxRecDepth 100000 in
set_option maxHeartbeats 4000000 in
theorem tX3_fits_153 {dn : Nat} {rf : Int32 → Int32 → PS → Option (Int32 × PS)} (hdn : 1 ≤ dn) (hrf : ∀ (z0 : Int32) (z1 : Int32) (σ : PS) (Pc : Int32 × PS → Prop), hO (rf z0 z1 σ) Pc → CON g mX3_fits dn 0 0 [.ref 107, .int z0, .int z1] (HP σ) (pI Pc)) {P : Int32 × PS → Prop} {r23 : Int32 → Int32 → Int32 → Int32 → PS → Option (Int32 × PS)} (hr_23 : ∀ (x1 : Int32) (x2 : Int32) (x3 : Int32) (x4 : Int32) (σ : PS), hO (r23 x1 x2 x3 x4 σ) P → X g mX3_fits (dn + 1) 0 0 (pI P) 23 [(0, .ref 107), (1, .int x1), (2, .int x2), (3, .int x3), (4, .int x4)] [] (HP σ)) (x1 : Int32) (x2 : Int32) (x3 : Int32) (x4 : Int32) (σ : PS) (h : hO (fX3_fits_153 rf r23 x1 x2 x3 x4 σ) P) : X g mX3_fits (dn + 1) 0 0 (pI P) 153 [(0, .ref 107), (1, .int x1), (2, .int x2), (3, .int x3), (4, .int x4)] [] (HP σ) := by
  unfold fX3_fits_153 at h
  refine X_iinc 4 1 [(4, .int (x4 + 1)), (0, .ref 107), (1, .int x1), (2, .int x2), (3, .int x3)] (dk KX3_fits 94 rfl) rfl (by decide) (by decide) rfl ?_
  refine X_goto 23 (dk KX3_fits 95 rfl) (by decide) ?_
  refine X_sub [(0, .ref 107), (1, .int x1), (2, .int x2), (3, .int x3), (4, .int (x4 + 1))] [1, 2, 3, 4, 0] rfl ?_
  exact hr_23 x1 x2 x3 (x4 + 1) σ h
def fX3_fits_23 (rf : Int32 → Int32 → PS → Option (Int32 × PS)) : Nat → Int32 → Int32 → Int32 → Int32 → PS → Option (Int32 × PS)
  | 0, _, _, _, _, _ => none
  | n + 1, x1, x2, x3, x4, σ => gd (inb (gi σ 107 1) 8) ((if (gi σ 7 ((gi σ 107 1) : Int32).toNatClampNeg) ≤ x4 then some (0, σ) else (if 3 ≤ x4 then some (0, σ) else (fX3_isOpenTo x4 x3 σ).bind (fun qy3 => (fun (y3 : Int32) (σ4 : PS) => (if y3 = 0 then fX3_fits_153 rf (fX3_fits_23 rf n) x1 x2 x3 x4 σ4 else gd (inb x4 3) (gd (inb x4 3) (gd (inb x4 3) (gd (inb x3 6) (gd (inb x4 3) (gd (inb x3 6) (gd (inb x4 3) (gd (inb x1 6) ((rf (x1 + 1) x2 (sI (sI (sI (sI σ4 113 (x4 : Int32).toNatClampNeg ((gi σ4 113 (x4 : Int32).toNatClampNeg) + 1)) 114 (x4 : Int32).toNatClampNeg ((gi (sI σ4 113 (x4 : Int32).toNatClampNeg ((gi σ4 113 (x4 : Int32).toNatClampNeg) + 1)) 114 (x4 : Int32).toNatClampNeg) + (gi (sI σ4 113 (x4 : Int32).toNatClampNeg ((gi σ4 113 (x4 : Int32).toNatClampNeg) + 1)) 19 (x3 : Int32).toNatClampNeg))) 115 (x4 : Int32).toNatClampNeg (gi (sI (sI σ4 113 (x4 : Int32).toNatClampNeg ((gi σ4 113 (x4 : Int32).toNatClampNeg) + 1)) 114 (x4 : Int32).toNatClampNeg ((gi (sI σ4 113 (x4 : Int32).toNatClampNeg ((gi σ4 113 (x4 : Int32).toNatClampNeg) + 1)) 114 (x4 : Int32).toNatClampNeg) + (gi (sI σ4 113 (x4 : Int32).toNatClampNeg ((gi σ4 113 (x4 : Int32).toNatClampNeg) + 1)) 19 (x3 : Int32).toNatClampNeg))) 17 (x3 : Int32).toNatClampNeg)) 112 (x1 : Int32).toNatClampNeg x4)).bind (fun qy14 => (fun (y14 : Int32) (σ15 : PS) => (if y14 = 0 then gd (inb x4 3) (gd (inb x4 3) (gd (inb x4 3) (gd (inb x3 6) (gd (inb x4 3) (fX3_fits_153 rf (fX3_fits_23 rf n) x1 x2 x3 x4 (sI (sI σ15 113 (x4 : Int32).toNatClampNeg ((gi σ15 113 (x4 : Int32).toNatClampNeg) - 1)) 114 (x4 : Int32).toNatClampNeg ((gi (sI σ15 113 (x4 : Int32).toNatClampNeg ((gi σ15 113 (x4 : Int32).toNatClampNeg) - 1)) 114 (x4 : Int32).toNatClampNeg) - (gi (sI σ15 113 (x4 : Int32).toNatClampNeg ((gi σ15 113 (x4 : Int32).toNatClampNeg) - 1)) 19 (x3 : Int32).toNatClampNeg)))))))) else some (1, σ15))) qy14.1 qy14.2))))))))))) qy3.1 qy3.2))))
set_option maxRecDepth 100000 in
set_option maxHeartbeats 4000000 in
theorem tX3_fits_23 {dn : Nat} {rf : Int32 → Int32 → PS → Option (Int32 × PS)} (hdn : 1 ≤ dn) (hrf : ∀ (z0 : Int32) (z1 : Int32) (σ : PS) (Pc : Int32 × PS → Prop), hO (rf z0 z1 σ) Pc → CON g mX3_fits dn 0 0 [.ref 107, .int z0, .int z1] (HP σ) (pI Pc)) {P : Int32 × PS → Prop} : ∀ (n : Nat) (x1 : Int32) (x2 : Int32) (x3 : Int32) (x4 : Int32) (σ : PS), hO (fX3_fits_23 rf n x1 x2 x3 x4 σ) P → X g mX3_fits (dn + 1) 0 0 (pI P) 23 [(0, .ref 107), (1, .int x1), (2, .int x2), (3, .int x3), (4, .int x4)] [] (HP σ) := by
  intro n
  induction n with
  | zero =>
    intro x1 x2 x3 x4 σ h
    rw [fX3_fits_23] at h
    exact (hO_none h).elim
  | succ n ih =>
    intro x1 x2 x3 x4 σ h
    rw [fX3_fits_23] at h
    refine X_iload 4 rfl (dk KX3_fits 15 rfl) ?_
    refine X_aload_n 0 rfl (dk KX3_fits 16 rfl) ?_
    refine Y_getR 3 fX3_46 (Nat.le_of_ble_eq_true rfl) rfl rfl (dk KX3_fits 17 rfl) ?_
    refine Y_getR 7 fX3_69 (Nat.le_of_ble_eq_true rfl) rfl rfl (dk KX3_fits 18 rfl) ?_
    refine X_aload_n 0 rfl (dk KX3_fits 19 rfl) ?_
    refine Y_getI fX3_9 (Nat.le_of_ble_eq_true rfl) rfl (dk KX3_fits 20 rfl) ?_
    refine Y_iald (Nat.le_of_ble_eq_true rfl) rfl (dk KX3_fits 21 rfl) h (fun hi2 h => ?_)
    refine X_icmp_ge 159 (dk KX3_fits 22 rfl) (by decide) (fun hc => ?_) (fun hc => ?_)
    · have h := hO_t hc h
      refine X_iconst (dk KX3_fits 96 rfl) 0 (by decide) ?_
      exact Y_zret (dk KX3_fits 97 rfl) rfl (by decide) h
    · have h := hO_f hc h
      refine X_iload 4 rfl (dk KX3_fits 23 rfl) ?_
      refine X_iconst (dk KX3_fits 24 rfl) 3 (by decide) ?_
      refine X_icmp_ge 159 (dk KX3_fits 25 rfl) (by decide) (fun hc => ?_) (fun hc => ?_)
      · have h := hO_t hc h
        refine X_iconst (dk KX3_fits 96 rfl) 0 (by decide) ?_
        exact Y_zret (dk KX3_fits 97 rfl) rfl (by decide) h
      · have h := hO_f hc h
        refine X_aload_n 0 rfl (dk KX3_fits 26 rfl) ?_
        refine X_iload 4 rfl (dk KX3_fits 27 rfl) ?_
        refine X_iload_n 3 rfl (dk KX3_fits 28 rfl) ?_
        refine Y_callVI wX3_72 (Nat.le_of_ble_eq_true rfl) rfl [.int x4, .int x3] [] rfl rfl (Nat.le_trans (by decide) (Nat.succ_le_succ hdn)) (Nat.le_of_ble_eq_true rfl) (dk KX3_fits 29 rfl) (fun Pc h => okX3_isOpenTo _ _ _ Pc h) h (fun y3 σ4 e5 h => ?_)
        try dsimp only at h
        refine X_if_eq 153 (dk KX3_fits 30 rfl) (by decide) (fun hc => ?_) (fun hc => ?_)
        · have h := hO_t hc h
          exact tX3_fits_153 hdn hrf ih x1 x2 x3 x4 σ4 h
        · have h := hO_f hc h
          refine X_aload_n 0 rfl (dk KX3_fits 31 rfl) ?_
          refine Y_getR 113 fX3_37 (Nat.le_of_ble_eq_true rfl) rfl rfl (dk KX3_fits 32 rfl) ?_
          refine X_iload 4 rfl (dk KX3_fits 33 rfl) ?_
          refine X_dup2 (dk KX3_fits 34 rfl) rfl rfl ?_
          refine Y_iald (Nat.le_of_ble_eq_true rfl) rfl (dk KX3_fits 35 rfl) h (fun hi6 h => ?_)
          refine X_iconst (dk KX3_fits 36 rfl) 1 (by decide) ?_
          refine X_iadd (dk KX3_fits 37 rfl) ?_
          refine Y_iast (Nat.le_of_ble_eq_true rfl) rfl (dk KX3_fits 38 rfl) h (fun hi7 h => ?_)
          refine X_aload_n 0 rfl (dk KX3_fits 39 rfl) ?_
          refine Y_getR 114 fX3_40 (Nat.le_of_ble_eq_true rfl) rfl rfl (dk KX3_fits 40 rfl) ?_
          refine X_iload 4 rfl (dk KX3_fits 41 rfl) ?_
          refine X_dup2 (dk KX3_fits 42 rfl) rfl rfl ?_
          refine Y_iald (Nat.le_of_ble_eq_true rfl) rfl (dk KX3_fits 43 rfl) h (fun hi8 h => ?_)
          refine X_aload_n 0 rfl (dk KX3_fits 44 rfl) ?_
          refine Y_getR 3 fX3_46 (Nat.le_of_ble_eq_true rfl) rfl rfl (dk KX3_fits 45 rfl) ?_
          refine Y_getR 19 fX3_75 (Nat.le_of_ble_eq_true rfl) rfl rfl (dk KX3_fits 46 rfl) ?_
          refine X_iload_n 3 rfl (dk KX3_fits 47 rfl) ?_
          refine Y_iald (Nat.le_of_ble_eq_true rfl) rfl (dk KX3_fits 48 rfl) h (fun hi9 h => ?_)
          refine X_iadd (dk KX3_fits 49 rfl) ?_
          refine Y_iast (Nat.le_of_ble_eq_true rfl) rfl (dk KX3_fits 50 rfl) h (fun hi10 h => ?_)
          refine X_aload_n 0 rfl (dk KX3_fits 51 rfl) ?_
          refine Y_getR 115 fX3_43 (Nat.le_of_ble_eq_true rfl) rfl rfl (dk KX3_fits 52 rfl) ?_
          refine X_iload 4 rfl (dk KX3_fits 53 rfl) ?_
          refine X_aload_n 0 rfl (dk KX3_fits 54 rfl) ?_
          refine Y_getR 3 fX3_46 (Nat.le_of_ble_eq_true rfl) rfl rfl (dk KX3_fits 55 rfl) ?_
          refine Y_getR 17 fX3_76 (Nat.le_of_ble_eq_true rfl) rfl rfl (dk KX3_fits 56 rfl) ?_
          refine X_iload_n 3 rfl (dk KX3_fits 57 rfl) ?_
          refine Y_iald (Nat.le_of_ble_eq_true rfl) rfl (dk KX3_fits 58 rfl) h (fun hi11 h => ?_)
          refine Y_iast (Nat.le_of_ble_eq_true rfl) rfl (dk KX3_fits 59 rfl) h (fun hi12 h => ?_)
          refine X_aload_n 0 rfl (dk KX3_fits 60 rfl) ?_
          refine Y_getR 112 fX3_34 (Nat.le_of_ble_eq_true rfl) rfl rfl (dk KX3_fits 61 rfl) ?_
          refine X_iload_n 1 rfl (dk KX3_fits 62 rfl) ?_
          refine X_iload 4 rfl (dk KX3_fits 63 rfl) ?_
          refine Y_iast (Nat.le_of_ble_eq_true rfl) rfl (dk KX3_fits 64 rfl) h (fun hi13 h => ?_)
          refine X_aload_n 0 rfl (dk KX3_fits 65 rfl) ?_
          refine X_iload_n 1 rfl (dk KX3_fits 66 rfl) ?_
          refine X_iconst (dk KX3_fits 67 rfl) 1 (by decide) ?_
          refine X_iadd (dk KX3_fits 68 rfl) ?_
          refine X_iload_n 2 rfl (dk KX3_fits 69 rfl) ?_
          refine Y_callVI wX3_65 (Nat.le_of_ble_eq_true rfl) rfl [.int (x1 + 1), .int x2] [] rfl rfl (Nat.le_refl _) (Nat.le_of_ble_eq_true rfl) (dk KX3_fits 70 rfl) (fun Pc h => hrf _ _ _ Pc h) h (fun y14 σ15 e16 h => ?_)
          try dsimp only at h
          refine X_if_eq 123 (dk KX3_fits 71 rfl) (by decide) (fun hc => ?_) (fun hc => ?_)
          · have h := hO_t hc h
            refine X_aload_n 0 rfl (dk KX3_fits 74 rfl) ?_
            refine Y_getR 113 fX3_37 (Nat.le_of_ble_eq_true rfl) rfl rfl (dk KX3_fits 75 rfl) ?_
            refine X_iload 4 rfl (dk KX3_fits 76 rfl) ?_
            refine X_dup2 (dk KX3_fits 77 rfl) rfl rfl ?_
            refine Y_iald (Nat.le_of_ble_eq_true rfl) rfl (dk KX3_fits 78 rfl) h (fun hi17 h => ?_)
            refine X_iconst (dk KX3_fits 79 rfl) 1 (by decide) ?_
            refine X_isub (dk KX3_fits 80 rfl) ?_
            refine Y_iast (Nat.le_of_ble_eq_true rfl) rfl (dk KX3_fits 81 rfl) h (fun hi18 h => ?_)
            refine X_aload_n 0 rfl (dk KX3_fits 82 rfl) ?_
            refine Y_getR 114 fX3_40 (Nat.le_of_ble_eq_true rfl) rfl rfl (dk KX3_fits 83 rfl) ?_
            refine X_iload 4 rfl (dk KX3_fits 84 rfl) ?_
            refine X_dup2 (dk KX3_fits 85 rfl) rfl rfl ?_
            refine Y_iald (Nat.le_of_ble_eq_true rfl) rfl (dk KX3_fits 86 rfl) h (fun hi19 h => ?_)
            refine X_aload_n 0 rfl (dk KX3_fits 87 rfl) ?_
            refine Y_getR 3 fX3_46 (Nat.le_of_ble_eq_true rfl) rfl rfl (dk KX3_fits 88 rfl) ?_
            refine Y_getR 19 fX3_75 (Nat.le_of_ble_eq_true rfl) rfl rfl (dk KX3_fits 89 rfl) ?_
            refine X_iload_n 3 rfl (dk KX3_fits 90 rfl) ?_
            refine Y_iald (Nat.le_of_ble_eq_true rfl) rfl (dk KX3_fits 91 rfl) h (fun hi20 h => ?_)
            refine X_isub (dk KX3_fits 92 rfl) ?_
            refine Y_iast (Nat.le_of_ble_eq_true rfl) rfl (dk KX3_fits 93 rfl) h (fun hi21 h => ?_)
            exact tX3_fits_153 hdn hrf ih x1 x2 x3 x4 (sI (sI σ15 113 (x4 : Int32).toNatClampNeg ((gi σ15 113 (x4 : Int32).toNatClampNeg) - 1)) 114 (x4 : Int32).toNatClampNeg ((gi (sI σ15 113 (x4 : Int32).toNatClampNeg ((gi σ15 113 (x4 : Int32).toNatClampNeg) - 1)) 114 (x4 : Int32).toNatClampNeg) - (gi (sI σ15 113 (x4 : Int32).toNatClampNeg ((gi σ15 113 (x4 : Int32).toNatClampNeg) - 1)) 19 (x3 : Int32).toNatClampNeg))) h
          · have h := hO_f hc h
            refine X_iconst (dk KX3_fits 72 rfl) 1 (by decide) ?_
            exact Y_zret (dk KX3_fits 73 rfl) rfl (by decide) h
def gX3_fits (rf : Int32 → Int32 → PS → Option (Int32 × PS)) (a1 : Int32) (a2 : Int32) (σ : PS) : Option (Int32 × PS) := (if a2 ≤ a1 then some (1, σ) else (if a1 < 6 then gd (inb a1 6) (fX3_fits_23 rf FU a1 a2 (gi σ 111 (a1 : Int32).toNatClampNeg) 0 σ) else some (1, σ)))
def fX3_fits : Nat → Int32 → Int32 → PS → Option (Int32 × PS)
  | 0, _, _, _ => none
  | n + 1, a1, a2, σ => gX3_fits (fX3_fits n) a1 a2 σ
set_option maxRecDepth 100000 in
set_option maxHeartbeats 4000000 in
theorem qX3_fits {dn : Nat} {rf : Int32 → Int32 → PS → Option (Int32 × PS)} (hdn : 1 ≤ dn) (hrf : ∀ (z0 : Int32) (z1 : Int32) (σ : PS) (Pc : Int32 × PS → Prop), hO (rf z0 z1 σ) Pc → CON g mX3_fits dn 0 0 [.ref 107, .int z0, .int z1] (HP σ) (pI Pc)) (a1 : Int32) (a2 : Int32) (σ : PS) (P : Int32 × PS → Prop) (h : hO (gX3_fits rf a1 a2 σ) P) : CON g mX3_fits (dn + 1) 0 0 [.ref 107, .int a1, .int a2] (HP σ) (pI P) := by
  refine CON.of (by decide) (by simp [lg_sl, Value.category]) ?_
  show X g _ _ _ _ _ 0 [(0, .ref 107), (1, .int a1), (2, .int a2)] [] _
  unfold gX3_fits at h
  refine X_iload_n 1 rfl (dk KX3_fits 0 rfl) ?_
  refine X_iload_n 2 rfl (dk KX3_fits 1 rfl) ?_
  refine X_icmp_ge 11 (dk KX3_fits 2 rfl) (by decide) (fun hc => ?_) (fun hc => ?_)
  · have h := hO_t hc h
    refine X_iconst (dk KX3_fits 6 rfl) 1 (by decide) ?_
    exact Y_zret (dk KX3_fits 7 rfl) rfl (by decide) h
  · have h := hO_f hc h
    refine X_iload_n 1 rfl (dk KX3_fits 3 rfl) ?_
    refine X_bipush (dk KX3_fits 4 rfl) 6 (by decide) ?_
    refine X_icmp_lt 13 (dk KX3_fits 5 rfl) (by decide) (fun hc => ?_) (fun hc => ?_)
    · have h := hO_t hc h
      refine X_aload_n 0 rfl (dk KX3_fits 8 rfl) ?_
      refine Y_getR 111 fX3_31 (Nat.le_of_ble_eq_true rfl) rfl rfl (dk KX3_fits 9 rfl) ?_
      refine X_iload_n 1 rfl (dk KX3_fits 10 rfl) ?_
      refine Y_iald (Nat.le_of_ble_eq_true rfl) rfl (dk KX3_fits 11 rfl) h (fun hi1 h => ?_)
      refine X_istore_n [(3, .int (gi σ 111 (a1 : Int32).toNatClampNeg)), (0, .ref 107), (1, .int a1), (2, .int a2)] (dk KX3_fits 12 rfl) (by decide) rfl ?_
      refine X_iconst (dk KX3_fits 13 rfl) 0 (by decide) ?_
      refine X_istore [(4, .int 0), (3, .int (gi σ 111 (a1 : Int32).toNatClampNeg)), (0, .ref 107), (1, .int a1), (2, .int a2)] (dk KX3_fits 14 rfl) (by decide) rfl ?_
      refine X_sub [(0, .ref 107), (1, .int a1), (2, .int a2), (3, .int (gi σ 111 (a1 : Int32).toNatClampNeg)), (4, .int 0)] [2, 3, 4, 1, 0] rfl ?_
      exact tX3_fits_23 hdn hrf FU a1 a2 (gi σ 111 (a1 : Int32).toNatClampNeg) 0 σ h
    · have h := hO_f hc h
      refine X_iconst (dk KX3_fits 6 rfl) 1 (by decide) ?_
      exact Y_zret (dk KX3_fits 7 rfl) rfl (by decide) h
theorem okX3_fits : ∀ (n : Nat) (a1 : Int32) (a2 : Int32) (σ : PS) (P : Int32 × PS → Prop), hO (fX3_fits n a1 a2 σ) P → CON g mX3_fits (n + 1) 0 0 [.ref 107, .int a1, .int a2] (HP σ) (pI P) := by
  intro n
  induction n with
  | zero =>
    intro a1 a2 σ P h
    rw [fX3_fits] at h
    exact (hO_none h).elim
  | succ n ih =>
    intro a1 a2 σ P h
    rw [fX3_fits] at h
    rw [show n + 1 + 1 = (n + 1) + 1 by omega]
    exact qX3_fits (by omega) ih a1 a2 σ P h

def fX3_fitsAll_2 : Nat → Int32 → Int32 → PS → Option (Int32 × PS)
  | 0, _, _, _ => none
  | n + 1, x1, x2, σ => (if 3 ≤ x2 then (fX3_fits 8 0 x1 σ).bind (fun qy1 => (fun (y1 : Int32) (σ2 : PS) => gd (is01 y1) (some (y1, σ2))) qy1.1 qy1.2) else gd (inb x2 3) (gd (inb x2 3) (fX3_fitsAll_2 n x1 (x2 + 1) (sI (sI σ 113 (x2 : Int32).toNatClampNeg 0) 114 (x2 : Int32).toNatClampNeg 0))))
set_option maxRecDepth 100000 in
set_option maxHeartbeats 4000000 in
theorem tX3_fitsAll_2 {P : Int32 × PS → Prop} : ∀ (n : Nat) (x1 : Int32) (x2 : Int32) (σ : PS), hO (fX3_fitsAll_2 n x1 x2 σ) P → X g mX3_fitsAll 11 0 0 (pI P) 2 [(0, .ref 107), (1, .int x1), (2, .int x2)] [] (HP σ) := by
  intro n
  induction n with
  | zero =>
    intro x1 x2 σ h
    rw [fX3_fitsAll_2] at h
    exact (hO_none h).elim
  | succ n ih =>
    intro x1 x2 σ h
    rw [fX3_fitsAll_2] at h
    refine X_iload_n 2 rfl (dk KX3_fitsAll 2 rfl) ?_
    refine X_iconst (dk KX3_fitsAll 3 rfl) 3 (by decide) ?_
    refine X_icmp_ge 27 (dk KX3_fitsAll 4 rfl) (by decide) (fun hc => ?_) (fun hc => ?_)
    · have h := hO_t hc h
      refine X_aload_n 0 rfl (dk KX3_fitsAll 17 rfl) ?_
      refine X_iconst (dk KX3_fitsAll 18 rfl) 0 (by decide) ?_
      refine X_iload_n 1 rfl (dk KX3_fitsAll 19 rfl) ?_
      refine Y_callVI wX3_65 (Nat.le_of_ble_eq_true rfl) rfl [.int 0, .int x1] [] rfl rfl (Nat.le_of_ble_eq_true rfl) (Nat.le_of_ble_eq_true rfl) (dk KX3_fitsAll 20 rfl) (fun Pc h => okX3_fits 8 _ _ _ Pc h) h (fun y1 σ2 e3 h => ?_)
      try dsimp only at h
      exact Y_zret (dk KX3_fitsAll 21 rfl) rfl (hO_gd h).1 (hO_gd h).2
    · have h := hO_f hc h
      refine X_aload_n 0 rfl (dk KX3_fitsAll 5 rfl) ?_
      refine Y_getR 113 fX3_37 (Nat.le_of_ble_eq_true rfl) rfl rfl (dk KX3_fitsAll 6 rfl) ?_
      refine X_iload_n 2 rfl (dk KX3_fitsAll 7 rfl) ?_
      refine X_iconst (dk KX3_fitsAll 8 rfl) 0 (by decide) ?_
      refine Y_iast (Nat.le_of_ble_eq_true rfl) rfl (dk KX3_fitsAll 9 rfl) h (fun hi4 h => ?_)
      refine X_aload_n 0 rfl (dk KX3_fitsAll 10 rfl) ?_
      refine Y_getR 114 fX3_40 (Nat.le_of_ble_eq_true rfl) rfl rfl (dk KX3_fitsAll 11 rfl) ?_
      refine X_iload_n 2 rfl (dk KX3_fitsAll 12 rfl) ?_
      refine X_iconst (dk KX3_fitsAll 13 rfl) 0 (by decide) ?_
      refine Y_iast (Nat.le_of_ble_eq_true rfl) rfl (dk KX3_fitsAll 14 rfl) h (fun hi5 h => ?_)
      refine X_iinc 2 1 [(2, .int (x2 + 1)), (0, .ref 107), (1, .int x1)] (dk KX3_fitsAll 15 rfl) rfl (by decide) (by decide) rfl ?_
      refine X_goto 2 (dk KX3_fitsAll 16 rfl) (by decide) ?_
      refine X_sub [(0, .ref 107), (1, .int x1), (2, .int (x2 + 1))] [1, 2, 0] rfl ?_
      exact ih x1 (x2 + 1) (sI (sI σ 113 (x2 : Int32).toNatClampNeg 0) 114 (x2 : Int32).toNatClampNeg 0) h
def fX3_fitsAll (a1 : Int32) (σ : PS) : Option (Int32 × PS) := fX3_fitsAll_2 FU a1 0 σ
set_option maxRecDepth 100000 in
set_option maxHeartbeats 4000000 in
theorem okX3_fitsAll (a1 : Int32) (σ : PS) (P : Int32 × PS → Prop) (h : hO (fX3_fitsAll a1 σ) P) : CON g mX3_fitsAll 11 0 0 [.ref 107, .int a1] (HP σ) (pI P) := by
  refine CON.of (by decide) (by simp [lg_sl, Value.category]) ?_
  show X g _ _ _ _ _ 0 [(0, .ref 107), (1, .int a1)] [] _
  unfold fX3_fitsAll at h
  refine X_iconst (dk KX3_fitsAll 0 rfl) 0 (by decide) ?_
  refine X_istore_n [(2, .int 0), (0, .ref 107), (1, .int a1)] (dk KX3_fitsAll 1 rfl) (by decide) rfl ?_
  refine X_sub [(0, .ref 107), (1, .int a1), (2, .int 0)] [1, 2, 0] rfl ?_
  exact tX3_fitsAll_2 FU a1 0 σ h

def fX3_keepTrial_2 : Nat → Int32 → PS → Option (PS)
  | 0, _, _ => none
  | n + 1, x1, σ => (if (gi σ 107 6) ≤ x1 then some σ else (if 6 ≤ x1 then some σ else gd (inb x1 6) (gd (inb x1 6) (gd (inb (gi σ 111 (x1 : Int32).toNatClampNeg) 6) (fX3_keepTrial_2 n (x1 + 1) (sI σ 110 ((gi σ 111 (x1 : Int32).toNatClampNeg) : Int32).toNatClampNeg (gi σ 112 (x1 : Int32).toNatClampNeg)))))))
set_option maxRecDepth 100000 in
set_option maxHeartbeats 4000000 in
theorem tX3_keepTrial_2 {P : PS → Prop} : ∀ (n : Nat) (x1 : Int32) (σ : PS), hO (fX3_keepTrial_2 n x1 σ) P → X g mX3_keepTrial 0 0 0 (pV P) 2 [(0, .ref 107), (1, .int x1)] [] (HP σ) := by
  intro n
  induction n with
  | zero =>
    intro x1 σ h
    rw [fX3_keepTrial_2] at h
    exact (hO_none h).elim
  | succ n ih =>
    intro x1 σ h
    rw [fX3_keepTrial_2] at h
    refine X_iload_n 1 rfl (dk KX3_keepTrial 2 rfl) ?_
    refine X_aload_n 0 rfl (dk KX3_keepTrial 3 rfl) ?_
    refine Y_getI fX3_28 (Nat.le_of_ble_eq_true rfl) rfl (dk KX3_keepTrial 4 rfl) ?_
    refine X_icmp_ge 39 (dk KX3_keepTrial 5 rfl) (by decide) (fun hc => ?_) (fun hc => ?_)
    · have h := hO_t hc h
      exact Y_vret (dk KX3_keepTrial 22 rfl) rfl h
    · have h := hO_f hc h
      refine X_iload_n 1 rfl (dk KX3_keepTrial 6 rfl) ?_
      refine X_bipush (dk KX3_keepTrial 7 rfl) 6 (by decide) ?_
      refine X_icmp_ge 39 (dk KX3_keepTrial 8 rfl) (by decide) (fun hc => ?_) (fun hc => ?_)
      · have h := hO_t hc h
        exact Y_vret (dk KX3_keepTrial 22 rfl) rfl h
      · have h := hO_f hc h
        refine X_aload_n 0 rfl (dk KX3_keepTrial 9 rfl) ?_
        refine Y_getR 110 fX3_25 (Nat.le_of_ble_eq_true rfl) rfl rfl (dk KX3_keepTrial 10 rfl) ?_
        refine X_aload_n 0 rfl (dk KX3_keepTrial 11 rfl) ?_
        refine Y_getR 111 fX3_31 (Nat.le_of_ble_eq_true rfl) rfl rfl (dk KX3_keepTrial 12 rfl) ?_
        refine X_iload_n 1 rfl (dk KX3_keepTrial 13 rfl) ?_
        refine Y_iald (Nat.le_of_ble_eq_true rfl) rfl (dk KX3_keepTrial 14 rfl) h (fun hi1 h => ?_)
        refine X_aload_n 0 rfl (dk KX3_keepTrial 15 rfl) ?_
        refine Y_getR 112 fX3_34 (Nat.le_of_ble_eq_true rfl) rfl rfl (dk KX3_keepTrial 16 rfl) ?_
        refine X_iload_n 1 rfl (dk KX3_keepTrial 17 rfl) ?_
        refine Y_iald (Nat.le_of_ble_eq_true rfl) rfl (dk KX3_keepTrial 18 rfl) h (fun hi2 h => ?_)
        refine Y_iast (Nat.le_of_ble_eq_true rfl) rfl (dk KX3_keepTrial 19 rfl) h (fun hi3 h => ?_)
        refine X_iinc 1 1 [(1, .int (x1 + 1)), (0, .ref 107)] (dk KX3_keepTrial 20 rfl) rfl (by decide) (by decide) rfl ?_
        refine X_goto 2 (dk KX3_keepTrial 21 rfl) (by decide) ?_
        refine X_sub [(0, .ref 107), (1, .int (x1 + 1))] [1, 0] rfl ?_
        exact ih (x1 + 1) (sI σ 110 ((gi σ 111 (x1 : Int32).toNatClampNeg) : Int32).toNatClampNeg (gi σ 112 (x1 : Int32).toNatClampNeg)) h
def fX3_keepTrial  (σ : PS) : Option (PS) := fX3_keepTrial_2 FU 0 σ
set_option maxRecDepth 100000 in
set_option maxHeartbeats 4000000 in
theorem okX3_keepTrial  (σ : PS) (P : PS → Prop) (h : hO (fX3_keepTrial  σ) P) : CON g mX3_keepTrial 0 0 0 [.ref 107] (HP σ) (pV P) := by
  refine CON.of (by decide) (by simp [lg_sl, Value.category]) ?_
  show X g _ _ _ _ _ 0 [(0, .ref 107)] [] _
  unfold fX3_keepTrial at h
  refine X_iconst (dk KX3_keepTrial 0 rfl) 0 (by decide) ?_
  refine X_istore_n [(1, .int 0), (0, .ref 107)] (dk KX3_keepTrial 1 rfl) (by decide) rfl ?_
  refine X_sub [(0, .ref 107), (1, .int 0)] [1, 0] rfl ?_
  exact tX3_keepTrial_2 FU 0 σ h

def fX3_lay_107 (r9 : Int32 → Int32 → PS → Option (PS)) (x1 : Int32) (x2 : Int32) (σ : PS) : Option (PS) := r9 x1 (x2 + 1) σ
set_option maxRecDepth 100000 in
set_option maxHeartbeats 4000000 in
theorem tX3_lay_107 {P : PS → Prop} {r9 : Int32 → Int32 → PS → Option (PS)} (hr_9 : ∀ (x1 : Int32) (x2 : Int32) (σ : PS), hO (r9 x1 x2 σ) P → X g mX3_lay 12 0 0 (pV P) 9 [(0, .ref 107), (1, .int x1), (2, .int x2)] [] (HP σ)) (x1 : Int32) (x2 : Int32) (σ : PS) (h : hO (fX3_lay_107 r9 x1 x2 σ) P) : X g mX3_lay 12 0 0 (pV P) 107 [(0, .ref 107), (1, .int x1), (2, .int x2)] [] (HP σ) := by
  unfold fX3_lay_107 at h
  refine X_iinc 2 1 [(2, .int (x2 + 1)), (0, .ref 107), (1, .int x1)] (dk KX3_lay 63 rfl) rfl (by decide) (by decide) rfl ?_
  refine X_goto 9 (dk KX3_lay 64 rfl) (by decide) ?_
  refine X_sub [(0, .ref 107), (1, .int x1), (2, .int (x2 + 1))] [1, 2, 0] rfl ?_
  exact hr_9 x1 (x2 + 1) σ h
def fX3_lay_9 : Nat → Int32 → Int32 → PS → Option (PS)
  | 0, _, _, _ => none
  | n + 1, x1, x2, σ => (if (gi σ 107 2) ≤ x2 then some σ else (if 6 ≤ x2 then some σ else gd (inb x2 6) (gd (inb (gi σ 108 (x2 : Int32).toNatClampNeg) 6) (gd (inb (gi σ 108 (x2 : Int32).toNatClampNeg) 6) (gd (inb (gi (sI σ 110 ((gi σ 108 (x2 : Int32).toNatClampNeg) : Int32).toNatClampNeg (-1)) 107 6) 6) (gd (inb (gi (sI (sI σ 110 ((gi σ 108 (x2 : Int32).toNatClampNeg) : Int32).toNatClampNeg (-1)) 111 ((gi (sI σ 110 ((gi σ 108 (x2 : Int32).toNatClampNeg) : Int32).toNatClampNeg (-1)) 107 6) : Int32).toNatClampNeg (gi σ 108 (x2 : Int32).toNatClampNeg)) 107 1) 8) ((if (gi (sI (sI σ 110 ((gi σ 108 (x2 : Int32).toNatClampNeg) : Int32).toNatClampNeg (-1)) 111 ((gi (sI σ 110 ((gi σ 108 (x2 : Int32).toNatClampNeg) : Int32).toNatClampNeg (-1)) 107 6) : Int32).toNatClampNeg (gi σ 108 (x2 : Int32).toNatClampNeg)) 5 ((gi (sI (sI σ 110 ((gi σ 108 (x2 : Int32).toNatClampNeg) : Int32).toNatClampNeg (-1)) 111 ((gi (sI σ 110 ((gi σ 108 (x2 : Int32).toNatClampNeg) : Int32).toNatClampNeg (-1)) 107 6) : Int32).toNatClampNeg (gi σ 108 (x2 : Int32).toNatClampNeg)) 107 1) : Int32).toNatClampNeg) < (x1 + (gi σ 18 ((gi σ 108 (x2 : Int32).toNatClampNeg) : Int32).toNatClampNeg)) then fX3_lay_107 (fX3_lay_9 n) x1 x2 (sI (sI σ 110 ((gi σ 108 (x2 : Int32).toNatClampNeg) : Int32).toNatClampNeg (-1)) 111 ((gi (sI σ 110 ((gi σ 108 (x2 : Int32).toNatClampNeg) : Int32).toNatClampNeg (-1)) 107 6) : Int32).toNatClampNeg (gi σ 108 (x2 : Int32).toNatClampNeg)) else (fX3_fitsAll ((gi (sI (sI σ 110 ((gi σ 108 (x2 : Int32).toNatClampNeg) : Int32).toNatClampNeg (-1)) 111 ((gi (sI σ 110 ((gi σ 108 (x2 : Int32).toNatClampNeg) : Int32).toNatClampNeg (-1)) 107 6) : Int32).toNatClampNeg (gi σ 108 (x2 : Int32).toNatClampNeg)) 107 6) + 1) (sI (sI σ 110 ((gi σ 108 (x2 : Int32).toNatClampNeg) : Int32).toNatClampNeg (-1)) 111 ((gi (sI σ 110 ((gi σ 108 (x2 : Int32).toNatClampNeg) : Int32).toNatClampNeg (-1)) 107 6) : Int32).toNatClampNeg (gi σ 108 (x2 : Int32).toNatClampNeg))).bind (fun qy6 => (fun (y6 : Int32) (σ7 : PS) => (if y6 = 0 then fX3_lay_107 (fX3_lay_9 n) x1 x2 σ7 else (fX3_keepTrial (sI σ7 107 6 ((gi σ7 107 6) + 1))).bind (fun σ10 => fX3_lay_107 (fX3_lay_9 n) (x1 + (gi σ 18 ((gi σ 108 (x2 : Int32).toNatClampNeg) : Int32).toNatClampNeg)) x2 σ10))) qy6.1 qy6.2)))))))))
set_option maxRecDepth 100000 in
set_option maxHeartbeats 4000000 in
theorem tX3_lay_9 {P : PS → Prop} : ∀ (n : Nat) (x1 : Int32) (x2 : Int32) (σ : PS), hO (fX3_lay_9 n x1 x2 σ) P → X g mX3_lay 12 0 0 (pV P) 9 [(0, .ref 107), (1, .int x1), (2, .int x2)] [] (HP σ) := by
  intro n
  induction n with
  | zero =>
    intro x1 x2 σ h
    rw [fX3_lay_9] at h
    exact (hO_none h).elim
  | succ n ih =>
    intro x1 x2 σ h
    rw [fX3_lay_9] at h
    refine X_iload_n 2 rfl (dk KX3_lay 7 rfl) ?_
    refine X_aload_n 0 rfl (dk KX3_lay 8 rfl) ?_
    refine Y_getI fX3_15 (Nat.le_of_ble_eq_true rfl) rfl (dk KX3_lay 9 rfl) ?_
    refine X_icmp_ge 113 (dk KX3_lay 10 rfl) (by decide) (fun hc => ?_) (fun hc => ?_)
    · have h := hO_t hc h
      exact Y_vret (dk KX3_lay 65 rfl) rfl h
    · have h := hO_f hc h
      refine X_iload_n 2 rfl (dk KX3_lay 11 rfl) ?_
      refine X_bipush (dk KX3_lay 12 rfl) 6 (by decide) ?_
      refine X_icmp_ge 113 (dk KX3_lay 13 rfl) (by decide) (fun hc => ?_) (fun hc => ?_)
      · have h := hO_t hc h
        exact Y_vret (dk KX3_lay 65 rfl) rfl h
      · have h := hO_f hc h
        refine X_aload_n 0 rfl (dk KX3_lay 14 rfl) ?_
        refine Y_getR 108 fX3_18 (Nat.le_of_ble_eq_true rfl) rfl rfl (dk KX3_lay 15 rfl) ?_
        refine X_iload_n 2 rfl (dk KX3_lay 16 rfl) ?_
        refine Y_iald (Nat.le_of_ble_eq_true rfl) rfl (dk KX3_lay 17 rfl) h (fun hi1 h => ?_)
        refine X_istore_n [(3, .int (gi σ 108 (x2 : Int32).toNatClampNeg)), (0, .ref 107), (1, .int x1), (2, .int x2)] (dk KX3_lay 18 rfl) (by decide) rfl ?_
        refine X_iload_n 2 rfl (dk KX3_lay 19 rfl) ?_
        refine X_aload_n 1 rfl (dk KX3_lay 20 rfl) ?_
        refine Y_getR 3 fX3_46 (Nat.le_of_ble_eq_true rfl) rfl rfl (dk KX3_lay 21 rfl) ?_
        refine Y_getR 18 fX3_50 (Nat.le_of_ble_eq_true rfl) rfl rfl (dk KX3_lay 22 rfl) ?_
        refine X_iload_n 0 rfl (dk KX3_lay 23 rfl) ?_
        refine Y_iald (Nat.le_of_ble_eq_true rfl) rfl (dk KX3_lay 24 rfl) h (fun hi2 h => ?_)
        refine X_iadd (dk KX3_lay 25 rfl) ?_
        refine X_istore [(4, .int (x1 + (gi σ 18 ((gi σ 108 (x2 : Int32).toNatClampNeg) : Int32).toNatClampNeg))), (3, .int (gi σ 108 (x2 : Int32).toNatClampNeg)), (0, .ref 107), (1, .int x1), (2, .int x2)] (dk KX3_lay 26 rfl) (by decide) rfl ?_
        refine X_aload_n 2 rfl (dk KX3_lay 27 rfl) ?_
        refine Y_getR 110 fX3_25 (Nat.le_of_ble_eq_true rfl) rfl rfl (dk KX3_lay 28 rfl) ?_
        refine X_iload_n 1 rfl (dk KX3_lay 29 rfl) ?_
        refine X_iconst (dk KX3_lay 30 rfl) (-1) (by decide) ?_
        refine Y_iast (Nat.le_of_ble_eq_true rfl) rfl (dk KX3_lay 31 rfl) h (fun hi3 h => ?_)
        refine X_aload_n 2 rfl (dk KX3_lay 32 rfl) ?_
        refine Y_getR 111 fX3_31 (Nat.le_of_ble_eq_true rfl) rfl rfl (dk KX3_lay 33 rfl) ?_
        refine X_aload_n 2 rfl (dk KX3_lay 34 rfl) ?_
        refine Y_getI fX3_28 (Nat.le_of_ble_eq_true rfl) rfl (dk KX3_lay 35 rfl) ?_
        refine X_iload_n 1 rfl (dk KX3_lay 36 rfl) ?_
        refine Y_iast (Nat.le_of_ble_eq_true rfl) rfl (dk KX3_lay 37 rfl) h (fun hi4 h => ?_)
        refine X_iload 0 rfl (dk KX3_lay 38 rfl) ?_
        refine X_aload_n 2 rfl (dk KX3_lay 39 rfl) ?_
        refine Y_getR 3 fX3_46 (Nat.le_of_ble_eq_true rfl) rfl rfl (dk KX3_lay 40 rfl) ?_
        refine Y_getR 5 fX3_55 (Nat.le_of_ble_eq_true rfl) rfl rfl (dk KX3_lay 41 rfl) ?_
        refine X_aload_n 2 rfl (dk KX3_lay 42 rfl) ?_
        refine Y_getI fX3_9 (Nat.le_of_ble_eq_true rfl) rfl (dk KX3_lay 43 rfl) ?_
        refine Y_iald (Nat.le_of_ble_eq_true rfl) rfl (dk KX3_lay 44 rfl) h (fun hi5 h => ?_)
        refine X_icmp_gt 107 (dk KX3_lay 45 rfl) (by decide) (fun hc => ?_) (fun hc => ?_)
        · have h := hO_t hc h
          refine X_sub [(0, .ref 107), (1, .int x1), (2, .int x2)] [2, 3, 4] rfl ?_
          exact tX3_lay_107 ih x1 x2 (sI (sI σ 110 ((gi σ 108 (x2 : Int32).toNatClampNeg) : Int32).toNatClampNeg (-1)) 111 ((gi (sI σ 110 ((gi σ 108 (x2 : Int32).toNatClampNeg) : Int32).toNatClampNeg (-1)) 107 6) : Int32).toNatClampNeg (gi σ 108 (x2 : Int32).toNatClampNeg)) h
        · have h := hO_f hc h
          refine X_aload_n 2 rfl (dk KX3_lay 46 rfl) ?_
          refine X_aload_n 2 rfl (dk KX3_lay 47 rfl) ?_
          refine Y_getI fX3_28 (Nat.le_of_ble_eq_true rfl) rfl (dk KX3_lay 48 rfl) ?_
          refine X_iconst (dk KX3_lay 49 rfl) 1 (by decide) ?_
          refine X_iadd (dk KX3_lay 50 rfl) ?_
          refine Y_callVI wX3_58 (Nat.le_of_ble_eq_true rfl) rfl [.int ((gi (sI (sI σ 110 ((gi σ 108 (x2 : Int32).toNatClampNeg) : Int32).toNatClampNeg (-1)) 111 ((gi (sI σ 110 ((gi σ 108 (x2 : Int32).toNatClampNeg) : Int32).toNatClampNeg (-1)) 107 6) : Int32).toNatClampNeg (gi σ 108 (x2 : Int32).toNatClampNeg)) 107 6) + 1)] [] rfl rfl (Nat.le_of_ble_eq_true rfl) (Nat.le_of_ble_eq_true rfl) (dk KX3_lay 51 rfl) (fun Pc h => okX3_fitsAll _ _ Pc h) h (fun y6 σ7 e8 h => ?_)
          try dsimp only at h
          refine X_if_eq 107 (dk KX3_lay 52 rfl) (by decide) (fun hc => ?_) (fun hc => ?_)
          · have h := hO_t hc h
            refine X_sub [(0, .ref 107), (1, .int x1), (2, .int x2)] [2, 3, 4] rfl ?_
            exact tX3_lay_107 ih x1 x2 σ7 h
          · have h := hO_f hc h
            refine X_aload_n 2 rfl (dk KX3_lay 53 rfl) ?_
            refine X_dup (dk KX3_lay 54 rfl) rfl ?_
            refine Y_getI fX3_28 (Nat.le_of_ble_eq_true rfl) rfl (dk KX3_lay 55 rfl) ?_
            refine X_iconst (dk KX3_lay 56 rfl) 1 (by decide) ?_
            refine X_iadd (dk KX3_lay 57 rfl) ?_
            refine Y_putI fX3_28 rfl (Nat.le_of_ble_eq_true rfl) rfl (dk KX3_lay 58 rfl) ?_
            refine X_iload 0 rfl (dk KX3_lay 59 rfl) ?_
            refine X_istore_n [(1, .int (x1 + (gi σ 18 ((gi σ 108 (x2 : Int32).toNatClampNeg) : Int32).toNatClampNeg))), (4, .int (x1 + (gi σ 18 ((gi σ 108 (x2 : Int32).toNatClampNeg) : Int32).toNatClampNeg))), (3, .int (gi σ 108 (x2 : Int32).toNatClampNeg)), (0, .ref 107), (2, .int x2)] (dk KX3_lay 60 rfl) (by decide) rfl ?_
            refine X_aload_n 3 rfl (dk KX3_lay 61 rfl) ?_
            refine Y_callVV wX3_62 (Nat.le_of_ble_eq_true rfl) rfl [] [] rfl rfl (Nat.le_of_ble_eq_true rfl) (Nat.le_of_ble_eq_true rfl) (dk KX3_lay 62 rfl) (fun Pc h => okX3_keepTrial _ Pc h) h (fun σ10 e11 h => ?_)
            try dsimp only at h
            refine X_sub [(0, .ref 107), (1, .int (x1 + (gi σ 18 ((gi σ 108 (x2 : Int32).toNatClampNeg) : Int32).toNatClampNeg))), (2, .int x2)] [3, 0, 4] rfl ?_
            exact tX3_lay_107 ih (x1 + (gi σ 18 ((gi σ 108 (x2 : Int32).toNatClampNeg) : Int32).toNatClampNeg)) x2 σ10 h
def fX3_lay  (σ : PS) : Option (PS) := fX3_lay_9 FU 0 0 (sI σ 107 6 0)
set_option maxRecDepth 100000 in
set_option maxHeartbeats 4000000 in
theorem okX3_lay  (σ : PS) (P : PS → Prop) (h : hO (fX3_lay  σ) P) : CON g mX3_lay 12 0 0 [.ref 107] (HP σ) (pV P) := by
  refine CON.of (by decide) (by simp [lg_sl, Value.category]) ?_
  show X g _ _ _ _ _ 0 [(0, .ref 107)] [] _
  unfold fX3_lay at h
  refine X_aload_n 0 rfl (dk KX3_lay 0 rfl) ?_
  refine X_iconst (dk KX3_lay 1 rfl) 0 (by decide) ?_
  refine Y_putI fX3_28 rfl (Nat.le_of_ble_eq_true rfl) rfl (dk KX3_lay 2 rfl) ?_
  refine X_iconst (dk KX3_lay 3 rfl) 0 (by decide) ?_
  refine X_istore_n [(1, .int 0), (0, .ref 107)] (dk KX3_lay 4 rfl) (by decide) rfl ?_
  refine X_iconst (dk KX3_lay 5 rfl) 0 (by decide) ?_
  refine X_istore_n [(2, .int 0), (1, .int 0), (0, .ref 107)] (dk KX3_lay 6 rfl) (by decide) rfl ?_
  refine X_sub [(0, .ref 107), (1, .int 0), (2, .int 0)] [2, 1, 0] rfl ?_
  exact tX3_lay_9 FU 0 0 (sI σ 107 6 0) h

def fX3_open (a1 : Int32) (σ : PS) : Option (PS) := some (sI (sI σ 107 1 a1) 107 2 0)
set_option maxRecDepth 100000 in
set_option maxHeartbeats 4000000 in
theorem okX3_open (a1 : Int32) (σ : PS) (P : PS → Prop) (h : hO (fX3_open a1 σ) P) : CON g mX3_open 0 0 0 [.ref 107, .int a1] (HP σ) (pV P) := by
  refine CON.of (by decide) (by simp [lg_sl, Value.category]) ?_
  show X g _ _ _ _ _ 0 [(0, .ref 107), (1, .int a1)] [] _
  unfold fX3_open at h
  refine X_aload_n 0 rfl (dk KX3_open 0 rfl) ?_
  refine X_iload_n 1 rfl (dk KX3_open 1 rfl) ?_
  refine Y_putI fX3_9 rfl (Nat.le_of_ble_eq_true rfl) rfl (dk KX3_open 2 rfl) ?_
  refine X_aload_n 0 rfl (dk KX3_open 3 rfl) ?_
  refine X_iconst (dk KX3_open 4 rfl) 0 (by decide) ?_
  refine Y_putI fX3_15 rfl (Nat.le_of_ble_eq_true rfl) rfl (dk KX3_open 5 rfl) ?_
  exact Y_vret (dk KX3_open 6 rfl) rfl h

end G
