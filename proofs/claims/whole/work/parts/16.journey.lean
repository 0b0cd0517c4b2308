section G
variable {g : GP}
def fX1_forget  (σ : PS) : Option (PS) := some (sI σ 41 13 (-1))
set_option maxRecDepth 100000 in
set_option maxHeartbeats 4000000 in
theorem okX1_forget  (σ : PS) (P : PS → Prop) (h : hO (fX1_forget  σ) P) : CON g mX1_forget 0 0 0 [.ref 41] (HP σ) (pV P) := by
  refine CON.of (by decide) (by simp [lg_sl, Value.category]) ?_
  show X g _ _ _ _ _ 0 [(0, .ref 41)] [] _
  unfold fX1_forget at h
  refine X_aload_n 0 rfl (dk KX1_forget 0 rfl) ?_
  refine X_iconst (dk KX1_forget 1 rfl) (-1) (by decide) ?_
  refine Y_putI fX1_44 rfl (Nat.le_of_ble_eq_true rfl) rfl (dk KX1_forget 2 rfl) ?_
  exact Y_vret (dk KX1_forget 3 rfl) rfl h

def fX1_isOutside (a1 : Int32) (a2 : Int32) (σ : PS) : Option (Int32 × PS) := gd (inb a1 6) (gd (inb a2 60) ((if (gi σ (rw_ 43 a1) (a2 : Int32).toNatClampNeg) = (-1) then some (0, σ) else gd (inb a1 6) (gd (inb a2 60) ((if (gi σ (rw_ 50 a1) (a2 : Int32).toNatClampNeg) = (-1) then some (1, σ) else some (0, σ)))))))
set_option maxRecDepth 100000 in
set_option maxHeartbeats 4000000 in
theorem okX1_isOutside (a1 : Int32) (a2 : Int32) (σ : PS) (P : Int32 × PS → Prop) (h : hO (fX1_isOutside a1 a2 σ) P) : CON g mX1_isOutside 0 0 0 [.ref 41, .int a1, .int a2] (HP σ) (pI P) := by
  refine CON.of (by decide) (by simp [lg_sl, Value.category]) ?_
  show X g _ _ _ _ _ 0 [(0, .ref 41), (1, .int a1), (2, .int a2)] [] _
  unfold fX1_isOutside at h
  refine X_aload_n 0 rfl (dk KX1_isOutside 0 rfl) ?_
  refine Y_getR 43 fX1_17 (Nat.le_of_ble_eq_true rfl) rfl rfl (dk KX1_isOutside 1 rfl) ?_
  refine X_iload_n 1 rfl (dk KX1_isOutside 2 rfl) ?_
  refine Y_aald (rw_ 43 a1) (Nat.le_of_ble_eq_true rfl) rfl (gr43_rf _ _) (dk KX1_isOutside 3 rfl) h (fun hi1 h => ?_)
  refine X_iload_n 2 rfl (dk KX1_isOutside 4 rfl) ?_
  refine Y_iald (gr43_lt hi1) (gr43_ob hi1) (dk KX1_isOutside 5 rfl) h (fun hi2 h => ?_)
  refine X_iconst (dk KX1_isOutside 6 rfl) (-1) (by decide) ?_
  refine X_icmp_eq 28 (dk KX1_isOutside 7 rfl) (by decide) (fun hc => ?_) (fun hc => ?_)
  · have h := hO_t hc h
    refine X_iconst (dk KX1_isOutside 18 rfl) 0 (by decide) ?_
    exact Y_zret (dk KX1_isOutside 19 rfl) rfl (by decide) h
  · have h := hO_f hc h
    refine X_aload_n 0 rfl (dk KX1_isOutside 8 rfl) ?_
    refine Y_getR 50 fX1_20 (Nat.le_of_ble_eq_true rfl) rfl rfl (dk KX1_isOutside 9 rfl) ?_
    refine X_iload_n 1 rfl (dk KX1_isOutside 10 rfl) ?_
    refine Y_aald (rw_ 50 a1) (Nat.le_of_ble_eq_true rfl) rfl (gr50_rf _ _) (dk KX1_isOutside 11 rfl) h (fun hi3 h => ?_)
    refine X_iload_n 2 rfl (dk KX1_isOutside 12 rfl) ?_
    refine Y_iald (gr50_lt hi3) (gr50_ob hi3) (dk KX1_isOutside 13 rfl) h (fun hi4 h => ?_)
    refine X_iconst (dk KX1_isOutside 14 rfl) (-1) (by decide) ?_
    refine X_icmp_ne 28 (dk KX1_isOutside 15 rfl) (by decide) (fun hc => ?_) (fun hc => ?_)
    · have h := hO_f hc h
      refine X_iconst (dk KX1_isOutside 18 rfl) 0 (by decide) ?_
      exact Y_zret (dk KX1_isOutside 19 rfl) rfl (by decide) h
    · have h := hO_t hc h
      refine X_iconst (dk KX1_isOutside 16 rfl) 1 (by decide) ?_
      refine X_goto 29 (dk KX1_isOutside 17 rfl) (by decide) ?_
      exact Y_zret (dk KX1_isOutside 19 rfl) rfl (by decide) h

def fX1_host_224 (r102 : Int32 → Int32 → Int32 → Int32 → PS → Option (PS)) (x1 : Int32) (x2 : Int32) (x3 : Int32) (x4 : Int32) (σ : PS) : Option (PS) := r102 x1 x2 x3 (x4 + 1) σ
set_option maxRecDepth 100000 in
set_option maxHeartbeats 4000000 in
theorem tX1_host_224 {P : PS → Prop} {r102 : Int32 → Int32 → Int32 → Int32 → PS → Option (PS)} (hr_102 : ∀ (x1 : Int32) (x2 : Int32) (x3 : Int32) (x4 : Int32) (σ : PS), hO (r102 x1 x2 x3 x4 σ) P → X g mX1_host 13 0 0 (pV P) 102 [(0, .ref 41), (1, .int x1), (2, .int x2), (3, .int x3), (4, .int x4)] [] (HP σ)) (x1 : Int32) (x2 : Int32) (x3 : Int32) (x4 : Int32) (σ : PS) (h : hO (fX1_host_224 r102 x1 x2 x3 x4 σ) P) : X g mX1_host 13 0 0 (pV P) 224 [(0, .ref 41), (1, .int x1), (2, .int x2), (3, .int x3), (4, .int x4)] [] (HP σ) := by
  unfold fX1_host_224 at h
  refine X_iinc 4 1 [(4, .int (x4 + 1)), (0, .ref 41), (1, .int x1), (2, .int x2), (3, .int x3)] (dk KX1_host 132 rfl) rfl (by decide) (by decide) rfl ?_
  refine X_goto 102 (dk KX1_host 133 rfl) (by decide) ?_
  refine X_sub [(0, .ref 41), (1, .int x1), (2, .int x2), (3, .int x3), (4, .int (x4 + 1))] [1, 2, 3, 4, 0] rfl ?_
  exact hr_102 x1 x2 x3 (x4 + 1) σ h
def fX1_host_171 (r102 : Int32 → Int32 → Int32 → Int32 → PS → Option (PS)) (x1 : Int32) (x2 : Int32) (x3 : Int32) (x4 : Int32) (x5 : Int32) (σ : PS) : Option (PS) := gd (inb x5 6) ((if x3 < (gi σ 18 (x5 : Int32).toNatClampNeg) then gd (inb x5 6) (gd (inb x2 60) (gd (inb x2 60) (fX1_host_224 r102 x1 x2 x3 x4 (sI σ (rw_ 57 x5) (x2 : Int32).toNatClampNeg ((gi σ (rw_ 57 x5) (x2 : Int32).toNatClampNeg) + 1))))) else gd (inb x5 6) (gd (inb x5 6) (gd (inb x2 60) (fX1_host_224 r102 x1 x2 (x3 - (gi σ 18 (x5 : Int32).toNatClampNeg)) x4 (sI σ (rw_ 57 x5) (x2 : Int32).toNatClampNeg 0))))))
set_option maxRecDepth 100000 in
set_option maxHeartbeats 4000000 in
theorem tX1_host_171 {P : PS → Prop} {r102 : Int32 → Int32 → Int32 → Int32 → PS → Option (PS)} (hr_102 : ∀ (x1 : Int32) (x2 : Int32) (x3 : Int32) (x4 : Int32) (σ : PS), hO (r102 x1 x2 x3 x4 σ) P → X g mX1_host 13 0 0 (pV P) 102 [(0, .ref 41), (1, .int x1), (2, .int x2), (3, .int x3), (4, .int x4)] [] (HP σ)) (x1 : Int32) (x2 : Int32) (x3 : Int32) (x4 : Int32) (x5 : Int32) (σ : PS) (h : hO (fX1_host_171 r102 x1 x2 x3 x4 x5 σ) P) : X g mX1_host 13 0 0 (pV P) 171 [(0, .ref 41), (1, .int x1), (2, .int x2), (3, .int x3), (4, .int x4), (5, .int x5)] [] (HP σ) := by
  unfold fX1_host_171 at h
  refine X_aload_n 0 rfl (dk KX1_host 99 rfl) ?_
  refine Y_getR 3 fX1_48 (Nat.le_of_ble_eq_true rfl) rfl rfl (dk KX1_host 100 rfl) ?_
  refine Y_getR 18 fX1_132 (Nat.le_of_ble_eq_true rfl) rfl rfl (dk KX1_host 101 rfl) ?_
  refine X_iload 5 rfl (dk KX1_host 102 rfl) ?_
  refine Y_iald (Nat.le_of_ble_eq_true rfl) rfl (dk KX1_host 103 rfl) h (fun hi28 h => ?_)
  refine X_iload_n 3 rfl (dk KX1_host 104 rfl) ?_
  refine X_icmp_gt 211 (dk KX1_host 105 rfl) (by decide) (fun hc => ?_) (fun hc => ?_)
  · have h := hO_t hc h
    refine X_aload_n 0 rfl (dk KX1_host 122 rfl) ?_
    refine Y_getR 57 fX1_23 (Nat.le_of_ble_eq_true rfl) rfl rfl (dk KX1_host 123 rfl) ?_
    refine X_iload 5 rfl (dk KX1_host 124 rfl) ?_
    refine Y_aald (rw_ 57 x5) (Nat.le_of_ble_eq_true rfl) rfl (gr57_rf _ _) (dk KX1_host 125 rfl) h (fun hi29 h => ?_)
    refine X_iload_n 2 rfl (dk KX1_host 126 rfl) ?_
    refine X_dup2 (dk KX1_host 127 rfl) rfl rfl ?_
    refine Y_iald (gr57_lt hi29) (gr57_ob hi29) (dk KX1_host 128 rfl) h (fun hi30 h => ?_)
    refine X_iconst (dk KX1_host 129 rfl) 1 (by decide) ?_
    refine X_iadd (dk KX1_host 130 rfl) ?_
    refine Y_iast (gr57_lt hi29) (gr57_ob hi29) (dk KX1_host 131 rfl) h (fun hi31 h => ?_)
    refine X_sub [(0, .ref 41), (1, .int x1), (2, .int x2), (3, .int x3), (4, .int x4)] [0, 1, 2, 3, 4] rfl ?_
    exact tX1_host_224 hr_102 x1 x2 x3 x4 (sI σ (rw_ 57 x5) (x2 : Int32).toNatClampNeg ((gi σ (rw_ 57 x5) (x2 : Int32).toNatClampNeg) + 1)) h
  · have h := hO_f hc h
    refine X_iload_n 3 rfl (dk KX1_host 106 rfl) ?_
    refine X_aload_n 0 rfl (dk KX1_host 107 rfl) ?_
    refine Y_getR 3 fX1_48 (Nat.le_of_ble_eq_true rfl) rfl rfl (dk KX1_host 108 rfl) ?_
    refine Y_getR 18 fX1_132 (Nat.le_of_ble_eq_true rfl) rfl rfl (dk KX1_host 109 rfl) ?_
    refine X_iload 5 rfl (dk KX1_host 110 rfl) ?_
    refine Y_iald (Nat.le_of_ble_eq_true rfl) rfl (dk KX1_host 111 rfl) h (fun hi32 h => ?_)
    refine X_isub (dk KX1_host 112 rfl) ?_
    refine X_istore_n [(3, .int (x3 - (gi σ 18 (x5 : Int32).toNatClampNeg))), (0, .ref 41), (1, .int x1), (2, .int x2), (4, .int x4), (5, .int x5)] (dk KX1_host 113 rfl) (by decide) rfl ?_
    refine X_aload_n 1 rfl (dk KX1_host 114 rfl) ?_
    refine Y_getR 57 fX1_23 (Nat.le_of_ble_eq_true rfl) rfl rfl (dk KX1_host 115 rfl) ?_
    refine X_iload 5 rfl (dk KX1_host 116 rfl) ?_
    refine Y_aald (rw_ 57 x5) (Nat.le_of_ble_eq_true rfl) rfl (gr57_rf _ _) (dk KX1_host 117 rfl) h (fun hi33 h => ?_)
    refine X_iload_n 3 rfl (dk KX1_host 118 rfl) ?_
    refine X_iconst (dk KX1_host 119 rfl) 0 (by decide) ?_
    refine Y_iast (gr57_lt hi33) (gr57_ob hi33) (dk KX1_host 120 rfl) h (fun hi34 h => ?_)
    refine X_goto 224 (dk KX1_host 121 rfl) (by decide) ?_
    refine X_sub [(0, .ref 41), (1, .int x1), (2, .int x2), (3, .int (x3 - (gi σ 18 (x5 : Int32).toNatClampNeg))), (4, .int x4)] [1, 2, 3, 0, 4] rfl ?_
    exact tX1_host_224 hr_102 x1 x2 (x3 - (gi σ 18 (x5 : Int32).toNatClampNeg)) x4 (sI σ (rw_ 57 x5) (x2 : Int32).toNatClampNeg 0) h
def fX1_host_102 : Nat → Int32 → Int32 → Int32 → Int32 → PS → Option (PS)
  | 0, _, _, _, _, _ => none
  | n + 1, x1, x2, x3, x4, σ => (if (gi σ 107 2) ≤ x4 then gd (inb x1 8) (gd (inb x2 60) (some (sI σ (rw_ 92 x1) (x2 : Int32).toNatClampNeg x3))) else gd (inb x4 6) (gd (inb (gi σ 108 (x4 : Int32).toNatClampNeg) 6) (gd (inb (gi σ 108 (x4 : Int32).toNatClampNeg) 6) (gd (inb x2 60) (gd (inb (gi σ 108 (x4 : Int32).toNatClampNeg) 6) (gd (inb x2 60) ((if (gi (sI σ (rw_ 50 (gi σ 108 (x4 : Int32).toNatClampNeg)) (x2 : Int32).toNatClampNeg (gi σ 110 ((gi σ 108 (x4 : Int32).toNatClampNeg) : Int32).toNatClampNeg)) (rw_ 50 (gi σ 108 (x4 : Int32).toNatClampNeg)) (x2 : Int32).toNatClampNeg) = (-1) then gd (inb (gi σ 108 (x4 : Int32).toNatClampNeg) 6) (gd (inb x2 60) (gd (inb x2 60) (fX1_host_171 (fX1_host_102 n) x1 x2 x3 x4 (gi σ 108 (x4 : Int32).toNatClampNeg) (sI (sI σ (rw_ 50 (gi σ 108 (x4 : Int32).toNatClampNeg)) (x2 : Int32).toNatClampNeg (gi σ 110 ((gi σ 108 (x4 : Int32).toNatClampNeg) : Int32).toNatClampNeg)) (rw_ 64 (gi σ 108 (x4 : Int32).toNatClampNeg)) (x2 : Int32).toNatClampNeg ((gi (sI σ (rw_ 50 (gi σ 108 (x4 : Int32).toNatClampNeg)) (x2 : Int32).toNatClampNeg (gi σ 110 ((gi σ 108 (x4 : Int32).toNatClampNeg) : Int32).toNatClampNeg)) (rw_ 64 (gi σ 108 (x4 : Int32).toNatClampNeg)) (x2 : Int32).toNatClampNeg) + 1))))) else fX1_host_171 (fX1_host_102 n) x1 x2 x3 x4 (gi σ 108 (x4 : Int32).toNatClampNeg) (sI σ (rw_ 50 (gi σ 108 (x4 : Int32).toNatClampNeg)) (x2 : Int32).toNatClampNeg (gi σ 110 ((gi σ 108 (x4 : Int32).toNatClampNeg) : Int32).toNatClampNeg))))))))))
set_option maxRecDepth 100000 in
set_option maxHeartbeats 4000000 in
theorem tX1_host_102 {P : PS → Prop} : ∀ (n : Nat) (x1 : Int32) (x2 : Int32) (x3 : Int32) (x4 : Int32) (σ : PS), hO (fX1_host_102 n x1 x2 x3 x4 σ) P → X g mX1_host 13 0 0 (pV P) 102 [(0, .ref 41), (1, .int x1), (2, .int x2), (3, .int x3), (4, .int x4)] [] (HP σ) := by
  intro n
  induction n with
  | zero =>
    intro x1 x2 x3 x4 σ h
    rw [fX1_host_102] at h
    exact (hO_none h).elim
  | succ n ih =>
    intro x1 x2 x3 x4 σ h
    rw [fX1_host_102] at h
    refine X_iload 4 rfl (dk KX1_host 59 rfl) ?_
    refine X_aload_n 0 rfl (dk KX1_host 60 rfl) ?_
    refine Y_getR 107 fX1_61 (Nat.le_of_ble_eq_true rfl) rfl rfl (dk KX1_host 61 rfl) ?_
    refine Y_getI fX1_166 (Nat.le_of_ble_eq_true rfl) rfl (dk KX1_host 62 rfl) ?_
    refine X_icmp_ge 230 (dk KX1_host 63 rfl) (by decide) (fun hc => ?_) (fun hc => ?_)
    · have h := hO_t hc h
      refine X_aload_n 0 rfl (dk KX1_host 134 rfl) ?_
      refine Y_getR 92 fX1_38 (Nat.le_of_ble_eq_true rfl) rfl rfl (dk KX1_host 135 rfl) ?_
      refine X_iload_n 1 rfl (dk KX1_host 136 rfl) ?_
      refine Y_aald (rw_ 92 x1) (Nat.le_of_ble_eq_true rfl) rfl (gr92_rf _ _) (dk KX1_host 137 rfl) h (fun hi17 h => ?_)
      refine X_iload_n 2 rfl (dk KX1_host 138 rfl) ?_
      refine X_iload_n 3 rfl (dk KX1_host 139 rfl) ?_
      refine Y_iast (gr92_lt hi17) (gr92_ob hi17) (dk KX1_host 140 rfl) h (fun hi18 h => ?_)
      exact Y_vret (dk KX1_host 141 rfl) rfl h
    · have h := hO_f hc h
      refine X_aload_n 0 rfl (dk KX1_host 64 rfl) ?_
      refine Y_getR 107 fX1_61 (Nat.le_of_ble_eq_true rfl) rfl rfl (dk KX1_host 65 rfl) ?_
      refine Y_getR 108 fX1_169 (Nat.le_of_ble_eq_true rfl) rfl rfl (dk KX1_host 66 rfl) ?_
      refine X_iload 4 rfl (dk KX1_host 67 rfl) ?_
      refine Y_iald (Nat.le_of_ble_eq_true rfl) rfl (dk KX1_host 68 rfl) h (fun hi19 h => ?_)
      refine X_istore [(5, .int (gi σ 108 (x4 : Int32).toNatClampNeg)), (0, .ref 41), (1, .int x1), (2, .int x2), (3, .int x3), (4, .int x4)] (dk KX1_host 69 rfl) (by decide) rfl ?_
      refine X_aload_n 1 rfl (dk KX1_host 70 rfl) ?_
      refine Y_getR 50 fX1_20 (Nat.le_of_ble_eq_true rfl) rfl rfl (dk KX1_host 71 rfl) ?_
      refine X_iload 0 rfl (dk KX1_host 72 rfl) ?_
      refine Y_aald (rw_ 50 (gi σ 108 (x4 : Int32).toNatClampNeg)) (Nat.le_of_ble_eq_true rfl) rfl (gr50_rf _ _) (dk KX1_host 73 rfl) h (fun hi20 h => ?_)
      refine X_iload_n 3 rfl (dk KX1_host 74 rfl) ?_
      refine X_aload_n 1 rfl (dk KX1_host 75 rfl) ?_
      refine Y_getR 107 fX1_61 (Nat.le_of_ble_eq_true rfl) rfl rfl (dk KX1_host 76 rfl) ?_
      refine Y_getR 110 fX1_172 (Nat.le_of_ble_eq_true rfl) rfl rfl (dk KX1_host 77 rfl) ?_
      refine X_iload 0 rfl (dk KX1_host 78 rfl) ?_
      refine Y_iald (Nat.le_of_ble_eq_true rfl) rfl (dk KX1_host 79 rfl) h (fun hi21 h => ?_)
      refine Y_iast (gr50_lt hi20) (gr50_ob hi20) (dk KX1_host 80 rfl) h (fun hi22 h => ?_)
      refine X_aload_n 1 rfl (dk KX1_host 81 rfl) ?_
      refine Y_getR 50 fX1_20 (Nat.le_of_ble_eq_true rfl) rfl rfl (dk KX1_host 82 rfl) ?_
      refine X_iload 0 rfl (dk KX1_host 83 rfl) ?_
      refine Y_aald (rw_ 50 (gi σ 108 (x4 : Int32).toNatClampNeg)) (Nat.le_of_ble_eq_true rfl) rfl (gr50_rf _ _) (dk KX1_host 84 rfl) h (fun hi23 h => ?_)
      refine X_iload_n 3 rfl (dk KX1_host 85 rfl) ?_
      refine Y_iald (gr50_lt hi23) (gr50_ob hi23) (dk KX1_host 86 rfl) h (fun hi24 h => ?_)
      refine X_iconst (dk KX1_host 87 rfl) (-1) (by decide) ?_
      refine X_icmp_ne 171 (dk KX1_host 88 rfl) (by decide) (fun hc => ?_) (fun hc => ?_)
      · have h := hO_f hc h
        refine X_sub [(0, .ref 41), (1, .int x1), (2, .int x2), (3, .int x3), (4, .int x4), (5, .int (gi σ 108 (x4 : Int32).toNatClampNeg))] [1, 2, 3, 4, 5, 0] rfl ?_
        exact tX1_host_171 ih x1 x2 x3 x4 (gi σ 108 (x4 : Int32).toNatClampNeg) (sI σ (rw_ 50 (gi σ 108 (x4 : Int32).toNatClampNeg)) (x2 : Int32).toNatClampNeg (gi σ 110 ((gi σ 108 (x4 : Int32).toNatClampNeg) : Int32).toNatClampNeg)) h
      · have h := hO_t hc h
        refine X_aload_n 1 rfl (dk KX1_host 89 rfl) ?_
        refine Y_getR 64 fX1_26 (Nat.le_of_ble_eq_true rfl) rfl rfl (dk KX1_host 90 rfl) ?_
        refine X_iload 0 rfl (dk KX1_host 91 rfl) ?_
        refine Y_aald (rw_ 64 (gi σ 108 (x4 : Int32).toNatClampNeg)) (Nat.le_of_ble_eq_true rfl) rfl (gr64_rf _ _) (dk KX1_host 92 rfl) h (fun hi25 h => ?_)
        refine X_iload_n 3 rfl (dk KX1_host 93 rfl) ?_
        refine X_dup2 (dk KX1_host 94 rfl) rfl rfl ?_
        refine Y_iald (gr64_lt hi25) (gr64_ob hi25) (dk KX1_host 95 rfl) h (fun hi26 h => ?_)
        refine X_iconst (dk KX1_host 96 rfl) 1 (by decide) ?_
        refine X_iadd (dk KX1_host 97 rfl) ?_
        refine Y_iast (gr64_lt hi25) (gr64_ob hi25) (dk KX1_host 98 rfl) h (fun hi27 h => ?_)
        refine X_sub [(0, .ref 41), (1, .int x1), (2, .int x2), (3, .int x3), (4, .int x4), (5, .int (gi σ 108 (x4 : Int32).toNatClampNeg))] [1, 2, 3, 4, 5, 0] rfl ?_
        exact tX1_host_171 ih x1 x2 x3 x4 (gi σ 108 (x4 : Int32).toNatClampNeg) (sI (sI σ (rw_ 50 (gi σ 108 (x4 : Int32).toNatClampNeg)) (x2 : Int32).toNatClampNeg (gi σ 110 ((gi σ 108 (x4 : Int32).toNatClampNeg) : Int32).toNatClampNeg)) (rw_ 64 (gi σ 108 (x4 : Int32).toNatClampNeg)) (x2 : Int32).toNatClampNeg ((gi (sI σ (rw_ 50 (gi σ 108 (x4 : Int32).toNatClampNeg)) (x2 : Int32).toNatClampNeg (gi σ 110 ((gi σ 108 (x4 : Int32).toNatClampNeg) : Int32).toNatClampNeg)) (rw_ 64 (gi σ 108 (x4 : Int32).toNatClampNeg)) (x2 : Int32).toNatClampNeg) + 1)) h
def fX1_host_80 (x1 : Int32) (x2 : Int32) (s0 : Int32) (σ : PS) : Option (PS) := gd (inb x1 8) (fX1_host_102 FU x1 x2 (imin 200 (s0 + (gi σ 6 (x1 : Int32).toNatClampNeg))) 0 σ)
set_option maxRecDepth 100000 in
set_option maxHeartbeats 4000000 in
theorem tX1_host_80 {P : PS → Prop} (x1 : Int32) (x2 : Int32) (s0 : Int32) (σ : PS) (h : hO (fX1_host_80 x1 x2 s0 σ) P) : X g mX1_host 13 0 0 (pV P) 80 [(0, .ref 41), (1, .int x1), (2, .int x2)] [.int s0] (HP σ) := by
  unfold fX1_host_80 at h
  refine X_istore_n [(3, .int s0), (0, .ref 41), (1, .int x1), (2, .int x2)] (dk KX1_host 46 rfl) (by decide) rfl ?_
  refine X_sipush (dk KX1_host 47 rfl) 200 (by decide) ?_
  refine X_iload_n 0 rfl (dk KX1_host 48 rfl) ?_
  refine X_aload_n 1 rfl (dk KX1_host 49 rfl) ?_
  refine Y_getR 3 fX1_48 (Nat.le_of_ble_eq_true rfl) rfl rfl (dk KX1_host 50 rfl) ?_
  refine Y_getR 6 fX1_163 (Nat.le_of_ble_eq_true rfl) rfl rfl (dk KX1_host 51 rfl) ?_
  refine X_iload_n 2 rfl (dk KX1_host 52 rfl) ?_
  refine Y_iald (Nat.le_of_ble_eq_true rfl) rfl (dk KX1_host 53 rfl) h (fun hi16 h => ?_)
  refine X_iadd (dk KX1_host 54 rfl) ?_
  refine Y_min (Nat.le_of_ble_eq_true rfl) (Nat.le_of_ble_eq_true rfl) mlX1_112 (dk KX1_host 55 rfl) ?_
  refine X_istore_n [(3, .int (imin 200 (s0 + (gi σ 6 (x1 : Int32).toNatClampNeg)))), (0, .ref 41), (1, .int x1), (2, .int x2)] (dk KX1_host 56 rfl) (by decide) rfl ?_
  refine X_iconst (dk KX1_host 57 rfl) 0 (by decide) ?_
  refine X_istore [(4, .int 0), (3, .int (imin 200 (s0 + (gi σ 6 (x1 : Int32).toNatClampNeg)))), (0, .ref 41), (1, .int x1), (2, .int x2)] (dk KX1_host 58 rfl) (by decide) rfl ?_
  refine X_sub [(0, .ref 41), (1, .int x1), (2, .int x2), (3, .int (imin 200 (s0 + (gi σ 6 (x1 : Int32).toNatClampNeg)))), (4, .int 0)] [2, 3, 4, 1, 0] rfl ?_
  exact tX1_host_102 FU x1 x2 (imin 200 (s0 + (gi σ 6 (x1 : Int32).toNatClampNeg))) 0 σ h
def fX1_host_49 (r10 : Int32 → Int32 → Int32 → PS → Option (PS)) (x1 : Int32) (x2 : Int32) (x3 : Int32) (σ : PS) : Option (PS) := r10 x1 x2 (x3 + 1) σ
set_option maxRecDepth 100000 in
set_option maxHeartbeats 4000000 in
theorem tX1_host_49 {P : PS → Prop} {r10 : Int32 → Int32 → Int32 → PS → Option (PS)} (hr_10 : ∀ (x1 : Int32) (x2 : Int32) (x3 : Int32) (σ : PS), hO (r10 x1 x2 x3 σ) P → X g mX1_host 13 0 0 (pV P) 10 [(0, .ref 41), (1, .int x1), (2, .int x2), (3, .int x3)] [] (HP σ)) (x1 : Int32) (x2 : Int32) (x3 : Int32) (σ : PS) (h : hO (fX1_host_49 r10 x1 x2 x3 σ) P) : X g mX1_host 13 0 0 (pV P) 49 [(0, .ref 41), (1, .int x1), (2, .int x2), (3, .int x3)] [] (HP σ) := by
  unfold fX1_host_49 at h
  refine X_iinc 3 1 [(3, .int (x3 + 1)), (0, .ref 41), (1, .int x1), (2, .int x2)] (dk KX1_host 29 rfl) rfl (by decide) (by decide) rfl ?_
  refine X_goto 10 (dk KX1_host 30 rfl) (by decide) ?_
  refine X_sub [(0, .ref 41), (1, .int x1), (2, .int x2), (3, .int (x3 + 1))] [1, 2, 3, 0] rfl ?_
  exact hr_10 x1 x2 (x3 + 1) σ h
def fX1_host_10 : Nat → Int32 → Int32 → Int32 → PS → Option (PS)
  | 0, _, _, _, _ => none
  | n + 1, x1, x2, x3, σ => (if (gi σ 3 6) ≤ x3 then (fX3_lay σ).bind (fun σ5 => (if x2 = 0 then fX1_host_80 x1 x2 0 σ5 else gd (inb x1 8) (gd (inb (x2 - 1) 60) (fX1_host_80 x1 x2 (gi σ5 (rw_ 92 x1) ((x2 - 1) : Int32).toNatClampNeg) σ5)))) else gd (inb x3 6) (gd (inb x2 60) ((if (gi σ (rw_ 43 x3) (x2 : Int32).toNatClampNeg) = x1 then gd (inb x3 6) (gd (inb x2 60) ((fX3_admit x3 (gi σ (rw_ 78 x3) (x2 : Int32).toNatClampNeg) σ).bind (fun σ14 => fX1_host_49 (fX1_host_10 n) x1 x2 x3 σ14))) else fX1_host_49 (fX1_host_10 n) x1 x2 x3 σ))))
set_option maxRecDepth 100000 in
set_option maxHeartbeats 4000000 in
theorem tX1_host_10 {P : PS → Prop} : ∀ (n : Nat) (x1 : Int32) (x2 : Int32) (x3 : Int32) (σ : PS), hO (fX1_host_10 n x1 x2 x3 σ) P → X g mX1_host 13 0 0 (pV P) 10 [(0, .ref 41), (1, .int x1), (2, .int x2), (3, .int x3)] [] (HP σ) := by
  intro n
  induction n with
  | zero =>
    intro x1 x2 x3 σ h
    rw [fX1_host_10] at h
    exact (hO_none h).elim
  | succ n ih =>
    intro x1 x2 x3 σ h
    rw [fX1_host_10] at h
    refine X_iload_n 3 rfl (dk KX1_host 6 rfl) ?_
    refine X_aload_n 0 rfl (dk KX1_host 7 rfl) ?_
    refine Y_getR 3 fX1_48 (Nat.le_of_ble_eq_true rfl) rfl rfl (dk KX1_host 8 rfl) ?_
    refine Y_getI fX1_79 (Nat.le_of_ble_eq_true rfl) rfl (dk KX1_host 9 rfl) ?_
    refine X_icmp_ge 55 (dk KX1_host 10 rfl) (by decide) (fun hc => ?_) (fun hc => ?_)
    · have h := hO_t hc h
      refine X_aload_n 0 rfl (dk KX1_host 31 rfl) ?_
      refine Y_getR 107 fX1_61 (Nat.le_of_ble_eq_true rfl) rfl rfl (dk KX1_host 32 rfl) ?_
      refine Y_callVV wX1_160 (Nat.le_of_ble_eq_true rfl) rfl [] [] rfl rfl (Nat.le_of_ble_eq_true rfl) (Nat.le_of_ble_eq_true rfl) (dk KX1_host 33 rfl) (fun Pc h => okX3_lay _ Pc h) h (fun σ5 e6 h => ?_)
      try dsimp only at h
      refine X_iload_n 2 rfl (dk KX1_host 34 rfl) ?_
      refine X_if_ne 70 (dk KX1_host 35 rfl) (by decide) (fun hc => ?_) (fun hc => ?_)
      · have h := hO_f hc h
        refine X_aload_n 0 rfl (dk KX1_host 38 rfl) ?_
        refine Y_getR 92 fX1_38 (Nat.le_of_ble_eq_true rfl) rfl rfl (dk KX1_host 39 rfl) ?_
        refine X_iload_n 1 rfl (dk KX1_host 40 rfl) ?_
        refine Y_aald (rw_ 92 x1) (Nat.le_of_ble_eq_true rfl) rfl (gr92_rf _ _) (dk KX1_host 41 rfl) h (fun hi7 h => ?_)
        refine X_iload_n 2 rfl (dk KX1_host 42 rfl) ?_
        refine X_iconst (dk KX1_host 43 rfl) 1 (by decide) ?_
        refine X_isub (dk KX1_host 44 rfl) ?_
        refine Y_iald (gr92_lt hi7) (gr92_ob hi7) (dk KX1_host 45 rfl) h (fun hi8 h => ?_)
        refine X_sub [(0, .ref 41), (1, .int x1), (2, .int x2)] [0, 1, 2] rfl ?_
        exact tX1_host_80 x1 x2 (gi σ5 (rw_ 92 x1) ((x2 - 1) : Int32).toNatClampNeg) σ5 h
      · have h := hO_t hc h
        refine X_iconst (dk KX1_host 36 rfl) 0 (by decide) ?_
        refine X_goto 80 (dk KX1_host 37 rfl) (by decide) ?_
        refine X_sub [(0, .ref 41), (1, .int x1), (2, .int x2)] [0, 1, 2] rfl ?_
        exact tX1_host_80 x1 x2 0 σ5 h
    · have h := hO_f hc h
      refine X_aload_n 0 rfl (dk KX1_host 11 rfl) ?_
      refine Y_getR 43 fX1_17 (Nat.le_of_ble_eq_true rfl) rfl rfl (dk KX1_host 12 rfl) ?_
      refine X_iload_n 3 rfl (dk KX1_host 13 rfl) ?_
      refine Y_aald (rw_ 43 x3) (Nat.le_of_ble_eq_true rfl) rfl (gr43_rf _ _) (dk KX1_host 14 rfl) h (fun hi9 h => ?_)
      refine X_iload_n 2 rfl (dk KX1_host 15 rfl) ?_
      refine Y_iald (gr43_lt hi9) (gr43_ob hi9) (dk KX1_host 16 rfl) h (fun hi10 h => ?_)
      refine X_iload_n 1 rfl (dk KX1_host 17 rfl) ?_
      refine X_icmp_ne 49 (dk KX1_host 18 rfl) (by decide) (fun hc => ?_) (fun hc => ?_)
      · have h := hO_f hc h
        exact tX1_host_49 ih x1 x2 x3 σ h
      · have h := hO_t hc h
        refine X_aload_n 0 rfl (dk KX1_host 19 rfl) ?_
        refine Y_getR 107 fX1_61 (Nat.le_of_ble_eq_true rfl) rfl rfl (dk KX1_host 20 rfl) ?_
        refine X_iload_n 3 rfl (dk KX1_host 21 rfl) ?_
        refine X_aload_n 0 rfl (dk KX1_host 22 rfl) ?_
        refine Y_getR 78 fX1_32 (Nat.le_of_ble_eq_true rfl) rfl rfl (dk KX1_host 23 rfl) ?_
        refine X_iload_n 3 rfl (dk KX1_host 24 rfl) ?_
        refine Y_aald (rw_ 78 x3) (Nat.le_of_ble_eq_true rfl) rfl (gr78_rf _ _) (dk KX1_host 25 rfl) h (fun hi11 h => ?_)
        refine X_iload_n 2 rfl (dk KX1_host 26 rfl) ?_
        refine Y_iald (gr78_lt hi11) (gr78_ob hi11) (dk KX1_host 27 rfl) h (fun hi12 h => ?_)
        refine Y_callVV wX1_157 (Nat.le_of_ble_eq_true rfl) rfl [.int x3, .int (gi σ (rw_ 78 x3) (x2 : Int32).toNatClampNeg)] [] rfl rfl (Nat.le_of_ble_eq_true rfl) (Nat.le_of_ble_eq_true rfl) (dk KX1_host 28 rfl) (fun Pc h => okX3_admit _ _ _ Pc h) h (fun σ14 e15 h => ?_)
        try dsimp only at h
        exact tX1_host_49 ih x1 x2 x3 σ14 h
def fX1_host (a1 : Int32) (a2 : Int32) (σ : PS) : Option (PS) := (fX3_open a1 σ).bind (fun σ2 => fX1_host_10 FU a1 a2 0 σ2)
set_option maxRecDepth 100000 in
set_option maxHeartbeats 4000000 in
theorem okX1_host (a1 : Int32) (a2 : Int32) (σ : PS) (P : PS → Prop) (h : hO (fX1_host a1 a2 σ) P) : CON g mX1_host 13 0 0 [.ref 41, .int a1, .int a2] (HP σ) (pV P) := by
  refine CON.of (by decide) (by simp [lg_sl, Value.category]) ?_
  show X g _ _ _ _ _ 0 [(0, .ref 41), (1, .int a1), (2, .int a2)] [] _
  unfold fX1_host at h
  refine X_aload_n 0 rfl (dk KX1_host 0 rfl) ?_
  refine Y_getR 107 fX1_61 (Nat.le_of_ble_eq_true rfl) rfl rfl (dk KX1_host 1 rfl) ?_
  refine X_iload_n 1 rfl (dk KX1_host 2 rfl) ?_
  refine Y_callVV wX1_153 (Nat.le_of_ble_eq_true rfl) rfl [.int a1] [] rfl rfl (Nat.le_of_ble_eq_true rfl) (Nat.le_of_ble_eq_true rfl) (dk KX1_host 3 rfl) (fun Pc h => okX3_open _ _ Pc h) h (fun σ2 e3 h => ?_)
  try dsimp only at h
  refine X_iconst (dk KX1_host 4 rfl) 0 (by decide) ?_
  refine X_istore_n [(3, .int 0), (0, .ref 41), (1, .int a1), (2, .int a2)] (dk KX1_host 5 rfl) (by decide) rfl ?_
  refine X_sub [(0, .ref 41), (1, .int a1), (2, .int a2), (3, .int 0)] [1, 2, 3, 0] rfl ?_
  exact tX1_host_10 FU a1 a2 0 σ2 h

def fX1_setVars (a1 : Int32) (a2 : Int32) (a3 : Int32) (σ : PS) : Option (PS) := gd (inb a1 6) (gd (inb 0 8) (gd (inb a1 6) (gd (inb 1 8) (gd (inb a1 6) (gd (inb 2 8) (gd (inb a1 6) (gd (inb 3 8) (gd (inb a1 6) (gd (inb a2 60) (gd (inb 4 8) (gd (inb 5 8) (gd (inb 6 8) (gd (inb a1 6) (gd (inb a2 60) (gd (inb 7 8) (some (sI (sI (sI (sI (sI (sI (sI (sI σ 42 (0 : Int32).toNatClampNeg (gi σ 17 (a1 : Int32).toNatClampNeg)) 42 (1 : Int32).toNatClampNeg (gi (sI σ 42 (0 : Int32).toNatClampNeg (gi σ 17 (a1 : Int32).toNatClampNeg)) 18 (a1 : Int32).toNatClampNeg)) 42 (2 : Int32).toNatClampNeg (gi (sI (sI σ 42 (0 : Int32).toNatClampNeg (gi σ 17 (a1 : Int32).toNatClampNeg)) 42 (1 : Int32).toNatClampNeg (gi (sI σ 42 (0 : Int32).toNatClampNeg (gi σ 17 (a1 : Int32).toNatClampNeg)) 18 (a1 : Int32).toNatClampNeg)) 19 (a1 : Int32).toNatClampNeg)) 42 (3 : Int32).toNatClampNeg (gi (sI (sI (sI σ 42 (0 : Int32).toNatClampNeg (gi σ 17 (a1 : Int32).toNatClampNeg)) 42 (1 : Int32).toNatClampNeg (gi (sI σ 42 (0 : Int32).toNatClampNeg (gi σ 17 (a1 : Int32).toNatClampNeg)) 18 (a1 : Int32).toNatClampNeg)) 42 (2 : Int32).toNatClampNeg (gi (sI (sI σ 42 (0 : Int32).toNatClampNeg (gi σ 17 (a1 : Int32).toNatClampNeg)) 42 (1 : Int32).toNatClampNeg (gi (sI σ 42 (0 : Int32).toNatClampNeg (gi σ 17 (a1 : Int32).toNatClampNeg)) 18 (a1 : Int32).toNatClampNeg)) 19 (a1 : Int32).toNatClampNeg)) 23 (a1 : Int32).toNatClampNeg)) 42 (4 : Int32).toNatClampNeg (gi (sI (sI (sI (sI σ 42 (0 : Int32).toNatClampNeg (gi σ 17 (a1 : Int32).toNatClampNeg)) 42 (1 : Int32).toNatClampNeg (gi (sI σ 42 (0 : Int32).toNatClampNeg (gi σ 17 (a1 : Int32).toNatClampNeg)) 18 (a1 : Int32).toNatClampNeg)) 42 (2 : Int32).toNatClampNeg (gi (sI (sI σ 42 (0 : Int32).toNatClampNeg (gi σ 17 (a1 : Int32).toNatClampNeg)) 42 (1 : Int32).toNatClampNeg (gi (sI σ 42 (0 : Int32).toNatClampNeg (gi σ 17 (a1 : Int32).toNatClampNeg)) 18 (a1 : Int32).toNatClampNeg)) 19 (a1 : Int32).toNatClampNeg)) 42 (3 : Int32).toNatClampNeg (gi (sI (sI (sI σ 42 (0 : Int32).toNatClampNeg (gi σ 17 (a1 : Int32).toNatClampNeg)) 42 (1 : Int32).toNatClampNeg (gi (sI σ 42 (0 : Int32).toNatClampNeg (gi σ 17 (a1 : Int32).toNatClampNeg)) 18 (a1 : Int32).toNatClampNeg)) 42 (2 : Int32).toNatClampNeg (gi (sI (sI σ 42 (0 : Int32).toNatClampNeg (gi σ 17 (a1 : Int32).toNatClampNeg)) 42 (1 : Int32).toNatClampNeg (gi (sI σ 42 (0 : Int32).toNatClampNeg (gi σ 17 (a1 : Int32).toNatClampNeg)) 18 (a1 : Int32).toNatClampNeg)) 19 (a1 : Int32).toNatClampNeg)) 23 (a1 : Int32).toNatClampNeg)) (rw_ 57 a1) (a2 : Int32).toNatClampNeg)) 42 (5 : Int32).toNatClampNeg a2) 42 (6 : Int32).toNatClampNeg a3) 42 (7 : Int32).toNatClampNeg (gi (sI (sI (sI (sI (sI (sI (sI σ 42 (0 : Int32).toNatClampNeg (gi σ 17 (a1 : Int32).toNatClampNeg)) 42 (1 : Int32).toNatClampNeg (gi (sI σ 42 (0 : Int32).toNatClampNeg (gi σ 17 (a1 : Int32).toNatClampNeg)) 18 (a1 : Int32).toNatClampNeg)) 42 (2 : Int32).toNatClampNeg (gi (sI (sI σ 42 (0 : Int32).toNatClampNeg (gi σ 17 (a1 : Int32).toNatClampNeg)) 42 (1 : Int32).toNatClampNeg (gi (sI σ 42 (0 : Int32).toNatClampNeg (gi σ 17 (a1 : Int32).toNatClampNeg)) 18 (a1 : Int32).toNatClampNeg)) 19 (a1 : Int32).toNatClampNeg)) 42 (3 : Int32).toNatClampNeg (gi (sI (sI (sI σ 42 (0 : Int32).toNatClampNeg (gi σ 17 (a1 : Int32).toNatClampNeg)) 42 (1 : Int32).toNatClampNeg (gi (sI σ 42 (0 : Int32).toNatClampNeg (gi σ 17 (a1 : Int32).toNatClampNeg)) 18 (a1 : Int32).toNatClampNeg)) 42 (2 : Int32).toNatClampNeg (gi (sI (sI σ 42 (0 : Int32).toNatClampNeg (gi σ 17 (a1 : Int32).toNatClampNeg)) 42 (1 : Int32).toNatClampNeg (gi (sI σ 42 (0 : Int32).toNatClampNeg (gi σ 17 (a1 : Int32).toNatClampNeg)) 18 (a1 : Int32).toNatClampNeg)) 19 (a1 : Int32).toNatClampNeg)) 23 (a1 : Int32).toNatClampNeg)) 42 (4 : Int32).toNatClampNeg (gi (sI (sI (sI (sI σ 42 (0 : Int32).toNatClampNeg (gi σ 17 (a1 : Int32).toNatClampNeg)) 42 (1 : Int32).toNatClampNeg (gi (sI σ 42 (0 : Int32).toNatClampNeg (gi σ 17 (a1 : Int32).toNatClampNeg)) 18 (a1 : Int32).toNatClampNeg)) 42 (2 : Int32).toNatClampNeg (gi (sI (sI σ 42 (0 : Int32).toNatClampNeg (gi σ 17 (a1 : Int32).toNatClampNeg)) 42 (1 : Int32).toNatClampNeg (gi (sI σ 42 (0 : Int32).toNatClampNeg (gi σ 17 (a1 : Int32).toNatClampNeg)) 18 (a1 : Int32).toNatClampNeg)) 19 (a1 : Int32).toNatClampNeg)) 42 (3 : Int32).toNatClampNeg (gi (sI (sI (sI σ 42 (0 : Int32).toNatClampNeg (gi σ 17 (a1 : Int32).toNatClampNeg)) 42 (1 : Int32).toNatClampNeg (gi (sI σ 42 (0 : Int32).toNatClampNeg (gi σ 17 (a1 : Int32).toNatClampNeg)) 18 (a1 : Int32).toNatClampNeg)) 42 (2 : Int32).toNatClampNeg (gi (sI (sI σ 42 (0 : Int32).toNatClampNeg (gi σ 17 (a1 : Int32).toNatClampNeg)) 42 (1 : Int32).toNatClampNeg (gi (sI σ 42 (0 : Int32).toNatClampNeg (gi σ 17 (a1 : Int32).toNatClampNeg)) 18 (a1 : Int32).toNatClampNeg)) 19 (a1 : Int32).toNatClampNeg)) 23 (a1 : Int32).toNatClampNeg)) (rw_ 57 a1) (a2 : Int32).toNatClampNeg)) 42 (5 : Int32).toNatClampNeg a2) 42 (6 : Int32).toNatClampNeg a3) (rw_ 64 a1) (a2 : Int32).toNatClampNeg))))))))))))))))))
set_option maxRecDepth 100000 in
set_option maxHeartbeats 4000000 in
theorem okX1_setVars (a1 : Int32) (a2 : Int32) (a3 : Int32) (σ : PS) (P : PS → Prop) (h : hO (fX1_setVars a1 a2 a3 σ) P) : CON g mX1_setVars 0 0 0 [.ref 41, .int a1, .int a2, .int a3] (HP σ) (pV P) := by
  refine CON.of (by decide) (by simp [lg_sl, Value.category]) ?_
  show X g _ _ _ _ _ 0 [(0, .ref 41), (1, .int a1), (2, .int a2), (3, .int a3)] [] _
  unfold fX1_setVars at h
  refine X_aload_n 0 rfl (dk KX1_setVars 0 rfl) ?_
  refine Y_getR 42 fX1_9 (Nat.le_of_ble_eq_true rfl) rfl rfl (dk KX1_setVars 1 rfl) ?_
  refine X_iconst (dk KX1_setVars 2 rfl) 0 (by decide) ?_
  refine X_aload_n 0 rfl (dk KX1_setVars 3 rfl) ?_
  refine Y_getR 3 fX1_48 (Nat.le_of_ble_eq_true rfl) rfl rfl (dk KX1_setVars 4 rfl) ?_
  refine Y_getR 17 fX1_129 (Nat.le_of_ble_eq_true rfl) rfl rfl (dk KX1_setVars 5 rfl) ?_
  refine X_iload_n 1 rfl (dk KX1_setVars 6 rfl) ?_
  refine Y_iald (Nat.le_of_ble_eq_true rfl) rfl (dk KX1_setVars 7 rfl) h (fun hi1 h => ?_)
  refine Y_iast (Nat.le_of_ble_eq_true rfl) rfl (dk KX1_setVars 8 rfl) h (fun hi2 h => ?_)
  refine X_aload_n 0 rfl (dk KX1_setVars 9 rfl) ?_
  refine Y_getR 42 fX1_9 (Nat.le_of_ble_eq_true rfl) rfl rfl (dk KX1_setVars 10 rfl) ?_
  refine X_iconst (dk KX1_setVars 11 rfl) 1 (by decide) ?_
  refine X_aload_n 0 rfl (dk KX1_setVars 12 rfl) ?_
  refine Y_getR 3 fX1_48 (Nat.le_of_ble_eq_true rfl) rfl rfl (dk KX1_setVars 13 rfl) ?_
  refine Y_getR 18 fX1_132 (Nat.le_of_ble_eq_true rfl) rfl rfl (dk KX1_setVars 14 rfl) ?_
  refine X_iload_n 1 rfl (dk KX1_setVars 15 rfl) ?_
  refine Y_iald (Nat.le_of_ble_eq_true rfl) rfl (dk KX1_setVars 16 rfl) h (fun hi3 h => ?_)
  refine Y_iast (Nat.le_of_ble_eq_true rfl) rfl (dk KX1_setVars 17 rfl) h (fun hi4 h => ?_)
  refine X_aload_n 0 rfl (dk KX1_setVars 18 rfl) ?_
  refine Y_getR 42 fX1_9 (Nat.le_of_ble_eq_true rfl) rfl rfl (dk KX1_setVars 19 rfl) ?_
  refine X_iconst (dk KX1_setVars 20 rfl) 2 (by decide) ?_
  refine X_aload_n 0 rfl (dk KX1_setVars 21 rfl) ?_
  refine Y_getR 3 fX1_48 (Nat.le_of_ble_eq_true rfl) rfl rfl (dk KX1_setVars 22 rfl) ?_
  refine Y_getR 19 fX1_135 (Nat.le_of_ble_eq_true rfl) rfl rfl (dk KX1_setVars 23 rfl) ?_
  refine X_iload_n 1 rfl (dk KX1_setVars 24 rfl) ?_
  refine Y_iald (Nat.le_of_ble_eq_true rfl) rfl (dk KX1_setVars 25 rfl) h (fun hi5 h => ?_)
  refine Y_iast (Nat.le_of_ble_eq_true rfl) rfl (dk KX1_setVars 26 rfl) h (fun hi6 h => ?_)
  refine X_aload_n 0 rfl (dk KX1_setVars 27 rfl) ?_
  refine Y_getR 42 fX1_9 (Nat.le_of_ble_eq_true rfl) rfl rfl (dk KX1_setVars 28 rfl) ?_
  refine X_iconst (dk KX1_setVars 29 rfl) 3 (by decide) ?_
  refine X_aload_n 0 rfl (dk KX1_setVars 30 rfl) ?_
  refine Y_getR 3 fX1_48 (Nat.le_of_ble_eq_true rfl) rfl rfl (dk KX1_setVars 31 rfl) ?_
  refine Y_getR 23 fX1_138 (Nat.le_of_ble_eq_true rfl) rfl rfl (dk KX1_setVars 32 rfl) ?_
  refine X_iload_n 1 rfl (dk KX1_setVars 33 rfl) ?_
  refine Y_iald (Nat.le_of_ble_eq_true rfl) rfl (dk KX1_setVars 34 rfl) h (fun hi7 h => ?_)
  refine Y_iast (Nat.le_of_ble_eq_true rfl) rfl (dk KX1_setVars 35 rfl) h (fun hi8 h => ?_)
  refine X_aload_n 0 rfl (dk KX1_setVars 36 rfl) ?_
  refine Y_getR 42 fX1_9 (Nat.le_of_ble_eq_true rfl) rfl rfl (dk KX1_setVars 37 rfl) ?_
  refine X_iconst (dk KX1_setVars 38 rfl) 4 (by decide) ?_
  refine X_aload_n 0 rfl (dk KX1_setVars 39 rfl) ?_
  refine Y_getR 57 fX1_23 (Nat.le_of_ble_eq_true rfl) rfl rfl (dk KX1_setVars 40 rfl) ?_
  refine X_iload_n 1 rfl (dk KX1_setVars 41 rfl) ?_
  refine Y_aald (rw_ 57 a1) (Nat.le_of_ble_eq_true rfl) rfl (gr57_rf _ _) (dk KX1_setVars 42 rfl) h (fun hi9 h => ?_)
  refine X_iload_n 2 rfl (dk KX1_setVars 43 rfl) ?_
  refine Y_iald (gr57_lt hi9) (gr57_ob hi9) (dk KX1_setVars 44 rfl) h (fun hi10 h => ?_)
  refine Y_iast (Nat.le_of_ble_eq_true rfl) rfl (dk KX1_setVars 45 rfl) h (fun hi11 h => ?_)
  refine X_aload_n 0 rfl (dk KX1_setVars 46 rfl) ?_
  refine Y_getR 42 fX1_9 (Nat.le_of_ble_eq_true rfl) rfl rfl (dk KX1_setVars 47 rfl) ?_
  refine X_iconst (dk KX1_setVars 48 rfl) 5 (by decide) ?_
  refine X_iload_n 2 rfl (dk KX1_setVars 49 rfl) ?_
  refine Y_iast (Nat.le_of_ble_eq_true rfl) rfl (dk KX1_setVars 50 rfl) h (fun hi12 h => ?_)
  refine X_aload_n 0 rfl (dk KX1_setVars 51 rfl) ?_
  refine Y_getR 42 fX1_9 (Nat.le_of_ble_eq_true rfl) rfl rfl (dk KX1_setVars 52 rfl) ?_
  refine X_bipush (dk KX1_setVars 53 rfl) 6 (by decide) ?_
  refine X_iload_n 3 rfl (dk KX1_setVars 54 rfl) ?_
  refine Y_iast (Nat.le_of_ble_eq_true rfl) rfl (dk KX1_setVars 55 rfl) h (fun hi13 h => ?_)
  refine X_aload_n 0 rfl (dk KX1_setVars 56 rfl) ?_
  refine Y_getR 42 fX1_9 (Nat.le_of_ble_eq_true rfl) rfl rfl (dk KX1_setVars 57 rfl) ?_
  refine X_bipush (dk KX1_setVars 58 rfl) 7 (by decide) ?_
  refine X_aload_n 0 rfl (dk KX1_setVars 59 rfl) ?_
  refine Y_getR 64 fX1_26 (Nat.le_of_ble_eq_true rfl) rfl rfl (dk KX1_setVars 60 rfl) ?_
  refine X_iload_n 1 rfl (dk KX1_setVars 61 rfl) ?_
  refine Y_aald (rw_ 64 a1) (Nat.le_of_ble_eq_true rfl) rfl (gr64_rf _ _) (dk KX1_setVars 62 rfl) h (fun hi14 h => ?_)
  refine X_iload_n 2 rfl (dk KX1_setVars 63 rfl) ?_
  refine Y_iald (gr64_lt hi14) (gr64_ob hi14) (dk KX1_setVars 64 rfl) h (fun hi15 h => ?_)
  refine Y_iast (Nat.le_of_ble_eq_true rfl) rfl (dk KX1_setVars 65 rfl) h (fun hi16 h => ?_)
  exact Y_vret (dk KX1_setVars 66 rfl) rfl h

def fX1_evening_95 (b : Nat) : Nat → Int32 → Int32 → PS → Option (PS)
  | 0, _, _, _ => none
  | n + 1, x2, x3, σ => (if (gi σ 3 0) ≤ x3 then some σ else (fX1_host x3 x2 σ).bind (fun σ18 => fX1_evening_95 b n x2 (x3 + 1) σ18))
set_option maxRecDepth 100000 in
set_option maxHeartbeats 4000000 in
theorem tX1_evening_95 {b : Nat} (hb : isBk b = true) {P : PS → Prop} : ∀ (n : Nat) (x2 : Int32) (x3 : Int32) (σ : PS), hO (fX1_evening_95 b n x2 x3 σ) P → X g mX1_evening 14 0 0 (pV P) 95 [(0, .ref 41), (2, .int x2), (3, .int x3)] [] (HP σ) := by
  intro n
  induction n with
  | zero =>
    intro x2 x3 σ h
    rw [fX1_evening_95] at h
    exact (hO_none h).elim
  | succ n ih =>
    intro x2 x3 σ h
    rw [fX1_evening_95] at h
    refine X_iload_n 2 rfl (dk KX1_evening 59 rfl) ?_
    refine X_aload_n 0 rfl (dk KX1_evening 60 rfl) ?_
    refine Y_getR 3 fX1_48 (Nat.le_of_ble_eq_true rfl) rfl rfl (dk KX1_evening 61 rfl) ?_
    refine Y_getI fX1_147 (Nat.le_of_ble_eq_true rfl) rfl (dk KX1_evening 62 rfl) ?_
    refine X_icmp_ge 118 (dk KX1_evening 63 rfl) (by decide) (fun hc => ?_) (fun hc => ?_)
    · have h := hO_t hc h
      exact Y_vret (dk KX1_evening 70 rfl) rfl h
    · have h := hO_f hc h
      refine X_aload_n 0 rfl (dk KX1_evening 64 rfl) ?_
      refine X_iload_n 2 rfl (dk KX1_evening 65 rfl) ?_
      refine X_iload_n 1 rfl (dk KX1_evening 66 rfl) ?_
      refine Y_callVV wX1_150 (Nat.le_of_ble_eq_true rfl) rfl [.int x3, .int x2] [] rfl rfl (Nat.le_of_ble_eq_true rfl) (Nat.le_of_ble_eq_true rfl) (dk KX1_evening 67 rfl) (fun Pc h => okX1_host _ _ _ Pc h) h (fun σ18 e19 h => ?_)
      try dsimp only at h
      refine X_iinc 2 1 [(3, .int (x3 + 1)), (0, .ref 41), (2, .int x2)] (dk KX1_evening 68 rfl) rfl (by decide) (by decide) rfl ?_
      refine X_goto 95 (dk KX1_evening 69 rfl) (by decide) ?_
      refine X_sub [(0, .ref 41), (2, .int x2), (3, .int (x3 + 1))] [1, 2, 0] rfl ?_
      exact ih x2 (x3 + 1) σ18 h
def fX1_evening_87 (b : Nat) (r2 : Int32 → Int32 → PS → Option (PS)) (x2 : Int32) (x3 : Int32) (σ : PS) : Option (PS) := r2 x2 (x3 + 1) σ
set_option maxRecDepth 100000 in
set_option maxHeartbeats 4000000 in
theorem tX1_evening_87 {b : Nat} (hb : isBk b = true) {P : PS → Prop} {r2 : Int32 → Int32 → PS → Option (PS)} (hr_2 : ∀ (x2 : Int32) (x3 : Int32) (σ : PS), hO (r2 x2 x3 σ) P → X g mX1_evening 14 0 0 (pV P) 2 [(0, .ref 41), (1, .ref b), (2, .int x2), (3, .int x3)] [] (HP σ)) (x2 : Int32) (x3 : Int32) (σ : PS) (h : hO (fX1_evening_87 b r2 x2 x3 σ) P) : X g mX1_evening 14 0 0 (pV P) 87 [(0, .ref 41), (1, .ref b), (2, .int x2), (3, .int x3)] [] (HP σ) := by
  unfold fX1_evening_87 at h
  refine X_iinc 3 1 [(3, .int (x3 + 1)), (0, .ref 41), (1, .ref b), (2, .int x2)] (dk KX1_evening 55 rfl) rfl (by decide) (by decide) rfl ?_
  refine X_goto 2 (dk KX1_evening 56 rfl) (by decide) ?_
  refine X_sub [(0, .ref 41), (1, .ref b), (2, .int x2), (3, .int (x3 + 1))] [1, 2, 3, 0] rfl ?_
  exact hr_2 x2 (x3 + 1) σ h
def fX1_evening_43 (b : Nat) (r2 : Int32 → Int32 → PS → Option (PS)) (x2 : Int32) (x3 : Int32) (σ : PS) : Option (PS) := gd (inb x3 6) (gd (inb x2 60) ((if (gi σ (rw_ 43 x3) (x2 : Int32).toNatClampNeg) = (-1) then fX1_evening_87 b r2 x2 x3 σ else gd (inb x3 6) (gd (inb x2 60) ((fX1_setVars x3 x2 (gi σ (rw_ 43 x3) (x2 : Int32).toNatClampNeg) σ).bind (fun σ10 => gd (inb x3 6) ((fX5_value b 3 0 σ10).bind (fun qy13 => (fun (y13 : Int32) (σ14 : PS) => gd (inb x2 60) (fX1_evening_87 b r2 x2 x3 (sI σ14 (rw_ 78 x3) (x2 : Int32).toNatClampNeg y13))) qy13.1 qy13.2))))))))
set_option maxRecDepth 100000 in
set_option maxHeartbeats 4000000 in
theorem tX1_evening_43 {b : Nat} (hb : isBk b = true) {P : PS → Prop} {r2 : Int32 → Int32 → PS → Option (PS)} (hr_2 : ∀ (x2 : Int32) (x3 : Int32) (σ : PS), hO (r2 x2 x3 σ) P → X g mX1_evening 14 0 0 (pV P) 2 [(0, .ref 41), (1, .ref b), (2, .int x2), (3, .int x3)] [] (HP σ)) (x2 : Int32) (x3 : Int32) (σ : PS) (h : hO (fX1_evening_43 b r2 x2 x3 σ) P) : X g mX1_evening 14 0 0 (pV P) 43 [(0, .ref 41), (1, .ref b), (2, .int x2), (3, .int x3)] [] (HP σ) := by
  unfold fX1_evening_43 at h
  refine X_aload_n 0 rfl (dk KX1_evening 25 rfl) ?_
  refine Y_getR 43 fX1_17 (Nat.le_of_ble_eq_true rfl) rfl rfl (dk KX1_evening 26 rfl) ?_
  refine X_iload_n 3 rfl (dk KX1_evening 27 rfl) ?_
  refine Y_aald (rw_ 43 x3) (Nat.le_of_ble_eq_true rfl) rfl (gr43_rf _ _) (dk KX1_evening 28 rfl) h (fun hi5 h => ?_)
  refine X_iload_n 2 rfl (dk KX1_evening 29 rfl) ?_
  refine Y_iald (gr43_lt hi5) (gr43_ob hi5) (dk KX1_evening 30 rfl) h (fun hi6 h => ?_)
  refine X_iconst (dk KX1_evening 31 rfl) (-1) (by decide) ?_
  refine X_icmp_eq 87 (dk KX1_evening 32 rfl) (by decide) (fun hc => ?_) (fun hc => ?_)
  · have h := hO_t hc h
    exact tX1_evening_87 hb hr_2 x2 x3 σ h
  · have h := hO_f hc h
    refine X_aload_n 0 rfl (dk KX1_evening 33 rfl) ?_
    refine X_iload_n 3 rfl (dk KX1_evening 34 rfl) ?_
    refine X_iload_n 2 rfl (dk KX1_evening 35 rfl) ?_
    refine X_aload_n 0 rfl (dk KX1_evening 36 rfl) ?_
    refine Y_getR 43 fX1_17 (Nat.le_of_ble_eq_true rfl) rfl rfl (dk KX1_evening 37 rfl) ?_
    refine X_iload_n 3 rfl (dk KX1_evening 38 rfl) ?_
    refine Y_aald (rw_ 43 x3) (Nat.le_of_ble_eq_true rfl) rfl (gr43_rf _ _) (dk KX1_evening 39 rfl) h (fun hi7 h => ?_)
    refine X_iload_n 2 rfl (dk KX1_evening 40 rfl) ?_
    refine Y_iald (gr43_lt hi7) (gr43_ob hi7) (dk KX1_evening 41 rfl) h (fun hi8 h => ?_)
    refine Y_callVV wX1_99 (Nat.le_of_ble_eq_true rfl) rfl [.int x3, .int x2, .int (gi σ (rw_ 43 x3) (x2 : Int32).toNatClampNeg)] [] rfl rfl (Nat.le_of_ble_eq_true rfl) (Nat.le_of_ble_eq_true rfl) (dk KX1_evening 42 rfl) (fun Pc h => okX1_setVars _ _ _ _ Pc h) h (fun σ10 e11 h => ?_)
    try dsimp only at h
    refine X_aload_n 0 rfl (dk KX1_evening 43 rfl) ?_
    refine Y_getR 78 fX1_32 (Nat.le_of_ble_eq_true rfl) rfl rfl (dk KX1_evening 44 rfl) ?_
    refine X_iload_n 3 rfl (dk KX1_evening 45 rfl) ?_
    refine Y_aald (rw_ 78 x3) (Nat.le_of_ble_eq_true rfl) rfl (gr78_rf _ _) (dk KX1_evening 46 rfl) h (fun hi12 h => ?_)
    refine X_iload_n 2 rfl (dk KX1_evening 47 rfl) ?_
    refine X_aload_n 1 rfl (dk KX1_evening 48 rfl) ?_
    refine X_iconst (dk KX1_evening 49 rfl) 3 (by decide) ?_
    refine X_iconst (dk KX1_evening 50 rfl) 0 (by decide) ?_
    refine X_aload_n 0 rfl (dk KX1_evening 51 rfl) ?_
    refine Y_getR 42 fX1_9 (Nat.le_of_ble_eq_true rfl) rfl rfl (dk KX1_evening 52 rfl) ?_
    refine Y_callVI wX1_122 (bk_lt hb) (bk_ob hb) [.int 3, .int 0, .ref 42] [.int x2, .ref (rw_ 78 x3)] rfl rfl (Nat.le_of_ble_eq_true rfl) (Nat.le_of_ble_eq_true rfl) (dk KX1_evening 53 rfl) (fun Pc h => okX5_value hb _ _ _ Pc h) h (fun y13 σ14 e15 h => ?_)
    try dsimp only at h
    refine Y_iast (gr78_lt hi12) (gr78_ob hi12) (dk KX1_evening 54 rfl) h (fun hi16 h => ?_)
    exact tX1_evening_87 hb hr_2 x2 x3 (sI σ14 (rw_ 78 x3) (x2 : Int32).toNatClampNeg y13) h
def fX1_evening_2 (b : Nat) : Nat → Int32 → Int32 → PS → Option (PS)
  | 0, _, _, _ => none
  | n + 1, x2, x3, σ => (if (gi σ 3 6) ≤ x3 then fX1_evening_95 b FU x2 0 σ else gd (inb x3 6) ((if (gi σ 22 (x3 : Int32).toNatClampNeg) = x2 then gd (inb x3 6) (gd (inb x3 6) (gd (inb x2 60) (fX1_evening_43 b (fX1_evening_2 b n) x2 x3 (sI σ (rw_ 43 x3) (x2 : Int32).toNatClampNeg (gi σ 20 (x3 : Int32).toNatClampNeg))))) else fX1_evening_43 b (fX1_evening_2 b n) x2 x3 σ)))
set_option maxRecDepth 100000 in
set_option maxHeartbeats 4000000 in
theorem tX1_evening_2 {b : Nat} (hb : isBk b = true) {P : PS → Prop} : ∀ (n : Nat) (x2 : Int32) (x3 : Int32) (σ : PS), hO (fX1_evening_2 b n x2 x3 σ) P → X g mX1_evening 14 0 0 (pV P) 2 [(0, .ref 41), (1, .ref b), (2, .int x2), (3, .int x3)] [] (HP σ) := by
  intro n
  induction n with
  | zero =>
    intro x2 x3 σ h
    rw [fX1_evening_2] at h
    exact (hO_none h).elim
  | succ n ih =>
    intro x2 x3 σ h
    rw [fX1_evening_2] at h
    refine X_iload_n 3 rfl (dk KX1_evening 2 rfl) ?_
    refine X_aload_n 0 rfl (dk KX1_evening 3 rfl) ?_
    refine Y_getR 3 fX1_48 (Nat.le_of_ble_eq_true rfl) rfl rfl (dk KX1_evening 4 rfl) ?_
    refine Y_getI fX1_79 (Nat.le_of_ble_eq_true rfl) rfl (dk KX1_evening 5 rfl) ?_
    refine X_icmp_ge 93 (dk KX1_evening 6 rfl) (by decide) (fun hc => ?_) (fun hc => ?_)
    · have h := hO_t hc h
      refine X_iconst (dk KX1_evening 57 rfl) 0 (by decide) ?_
      refine X_istore_n [(3, .int 0), (0, .ref 41), (1, .ref b), (2, .int x2)] (dk KX1_evening 58 rfl) (by decide) rfl ?_
      refine X_sub [(0, .ref 41), (2, .int x2), (3, .int 0)] [1, 3, 0] rfl ?_
      exact tX1_evening_95 hb FU x2 0 σ h
    · have h := hO_f hc h
      refine X_aload_n 0 rfl (dk KX1_evening 7 rfl) ?_
      refine Y_getR 3 fX1_48 (Nat.le_of_ble_eq_true rfl) rfl rfl (dk KX1_evening 8 rfl) ?_
      refine Y_getR 22 fX1_141 (Nat.le_of_ble_eq_true rfl) rfl rfl (dk KX1_evening 9 rfl) ?_
      refine X_iload_n 3 rfl (dk KX1_evening 10 rfl) ?_
      refine Y_iald (Nat.le_of_ble_eq_true rfl) rfl (dk KX1_evening 11 rfl) h (fun hi1 h => ?_)
      refine X_iload_n 2 rfl (dk KX1_evening 12 rfl) ?_
      refine X_icmp_ne 43 (dk KX1_evening 13 rfl) (by decide) (fun hc => ?_) (fun hc => ?_)
      · have h := hO_f hc h
        exact tX1_evening_43 hb ih x2 x3 σ h
      · have h := hO_t hc h
        refine X_aload_n 0 rfl (dk KX1_evening 14 rfl) ?_
        refine Y_getR 43 fX1_17 (Nat.le_of_ble_eq_true rfl) rfl rfl (dk KX1_evening 15 rfl) ?_
        refine X_iload_n 3 rfl (dk KX1_evening 16 rfl) ?_
        refine Y_aald (rw_ 43 x3) (Nat.le_of_ble_eq_true rfl) rfl (gr43_rf _ _) (dk KX1_evening 17 rfl) h (fun hi2 h => ?_)
        refine X_iload_n 2 rfl (dk KX1_evening 18 rfl) ?_
        refine X_aload_n 0 rfl (dk KX1_evening 19 rfl) ?_
        refine Y_getR 3 fX1_48 (Nat.le_of_ble_eq_true rfl) rfl rfl (dk KX1_evening 20 rfl) ?_
        refine Y_getR 20 fX1_144 (Nat.le_of_ble_eq_true rfl) rfl rfl (dk KX1_evening 21 rfl) ?_
        refine X_iload_n 3 rfl (dk KX1_evening 22 rfl) ?_
        refine Y_iald (Nat.le_of_ble_eq_true rfl) rfl (dk KX1_evening 23 rfl) h (fun hi3 h => ?_)
        refine Y_iast (gr43_lt hi2) (gr43_ob hi2) (dk KX1_evening 24 rfl) h (fun hi4 h => ?_)
        exact tX1_evening_43 hb ih x2 x3 (sI σ (rw_ 43 x3) (x2 : Int32).toNatClampNeg (gi σ 20 (x3 : Int32).toNatClampNeg)) h
def fX1_evening (b : Nat) (a2 : Int32) (σ : PS) : Option (PS) := fX1_evening_2 b FU a2 0 σ
set_option maxRecDepth 100000 in
set_option maxHeartbeats 4000000 in
theorem okX1_evening {b : Nat} (hb : isBk b = true) (a2 : Int32) (σ : PS) (P : PS → Prop) (h : hO (fX1_evening b a2 σ) P) : CON g mX1_evening 14 0 0 [.ref 41, .ref b, .int a2] (HP σ) (pV P) := by
  refine CON.of (by decide) (by simp [lg_sl, Value.category]) ?_
  show X g _ _ _ _ _ 0 [(0, .ref 41), (1, .ref b), (2, .int a2)] [] _
  unfold fX1_evening at h
  refine X_iconst (dk KX1_evening 0 rfl) 0 (by decide) ?_
  refine X_istore_n [(3, .int 0), (0, .ref 41), (1, .ref b), (2, .int a2)] (dk KX1_evening 1 rfl) (by decide) rfl ?_
  refine X_sub [(0, .ref 41), (1, .ref b), (2, .int a2), (3, .int 0)] [1, 2, 3, 0] rfl ?_
  exact tX1_evening_2 hb FU a2 0 σ h

def fX1_pay (a1 : Int32) (a2 : Int32) (a3 : Int32) (a4 : Int32) (σ : PS) : Option (PS) := (if a4 ≤ 0 then some σ else gd (inb a1 6) (gd (inb a2 60) (gd (inb a2 60) (gd (inb a3 5) (gd (inb a2 60) (gd (inb a2 60) (some (sI (sI σ (rw_ 71 a1) (a2 : Int32).toNatClampNeg ((gi σ (rw_ 71 a1) (a2 : Int32).toNatClampNeg) + a4)) (rw_ 101 a3) (a2 : Int32).toNatClampNeg ((gi (sI σ (rw_ 71 a1) (a2 : Int32).toNatClampNeg ((gi σ (rw_ 71 a1) (a2 : Int32).toNatClampNeg) + a4)) (rw_ 101 a3) (a2 : Int32).toNatClampNeg) + a4)))))))))
set_option maxRecDepth 100000 in
set_option maxHeartbeats 4000000 in
theorem okX1_pay (a1 : Int32) (a2 : Int32) (a3 : Int32) (a4 : Int32) (σ : PS) (P : PS → Prop) (h : hO (fX1_pay a1 a2 a3 a4 σ) P) : CON g mX1_pay 0 0 0 [.ref 41, .int a1, .int a2, .int a3, .int a4] (HP σ) (pV P) := by
  refine CON.of (by decide) (by simp [lg_sl, Value.category]) ?_
  show X g _ _ _ _ _ 0 [(0, .ref 41), (1, .int a1), (2, .int a2), (3, .int a3), (4, .int a4)] [] _
  unfold fX1_pay at h
  refine X_iload 4 rfl (dk KX1_pay 0 rfl) ?_
  refine X_if_le 31 (dk KX1_pay 1 rfl) (by decide) (fun hc => ?_) (fun hc => ?_)
  · have h := hO_t hc h
    exact Y_vret (dk KX1_pay 22 rfl) rfl h
  · have h := hO_f hc h
    refine X_aload_n 0 rfl (dk KX1_pay 2 rfl) ?_
    refine Y_getR 71 fX1_29 (Nat.le_of_ble_eq_true rfl) rfl rfl (dk KX1_pay 3 rfl) ?_
    refine X_iload_n 1 rfl (dk KX1_pay 4 rfl) ?_
    refine Y_aald (rw_ 71 a1) (Nat.le_of_ble_eq_true rfl) rfl (gr71_rf _ _) (dk KX1_pay 5 rfl) h (fun hi1 h => ?_)
    refine X_iload_n 2 rfl (dk KX1_pay 6 rfl) ?_
    refine X_dup2 (dk KX1_pay 7 rfl) rfl rfl ?_
    refine Y_iald (gr71_lt hi1) (gr71_ob hi1) (dk KX1_pay 8 rfl) h (fun hi2 h => ?_)
    refine X_iload 4 rfl (dk KX1_pay 9 rfl) ?_
    refine X_iadd (dk KX1_pay 10 rfl) ?_
    refine Y_iast (gr71_lt hi1) (gr71_ob hi1) (dk KX1_pay 11 rfl) h (fun hi3 h => ?_)
    refine X_aload_n 0 rfl (dk KX1_pay 12 rfl) ?_
    refine Y_getR 101 fX1_41 (Nat.le_of_ble_eq_true rfl) rfl rfl (dk KX1_pay 13 rfl) ?_
    refine X_iload_n 3 rfl (dk KX1_pay 14 rfl) ?_
    refine Y_aald (rw_ 101 a3) (Nat.le_of_ble_eq_true rfl) rfl (gr101_rf _ _) (dk KX1_pay 15 rfl) h (fun hi4 h => ?_)
    refine X_iload_n 2 rfl (dk KX1_pay 16 rfl) ?_
    refine X_dup2 (dk KX1_pay 17 rfl) rfl rfl ?_
    refine Y_iald (gr101_lt hi4) (gr101_ob hi4) (dk KX1_pay 18 rfl) h (fun hi5 h => ?_)
    refine X_iload 4 rfl (dk KX1_pay 19 rfl) ?_
    refine X_iadd (dk KX1_pay 20 rfl) ?_
    refine Y_iast (gr101_lt hi4) (gr101_ob hi4) (dk KX1_pay 21 rfl) h (fun hi6 h => ?_)
    exact Y_vret (dk KX1_pay 22 rfl) rfl h

def fX1_goOn_35 (b : Nat) (x2 : Int32) (x3 : Int32) (x4 : Int32) (x5 : Int32) (s0 : Int32) (σ : PS) : Option (PS) := (fX2_hasInn x5 σ).bind (fun qy4 => (fun (y4 : Int32) (σ5 : PS) => (if y4 = 0 then some σ5 else (fX2_hasInn s0 σ5).bind (fun qy7 => (fun (y7 : Int32) (σ8 : PS) => (if y7 = 0 then some σ8 else (fX1_setVars x2 x3 s0 σ8).bind (fun σ11 => gd (inb s0 8) ((fX5_firstThatHolds b 5 (gi σ11 4 (s0 : Int32).toNatClampNeg) σ11).bind (fun qy14 => (fun (y14 : Int32) (σ15 : PS) => gd (inb x2 6) (gd (inb x3 60) ((if y14 = (-1) then (fX0_isShut (imin x5 s0) x3 x4 (sI σ15 (rw_ 85 x2) (x3 : Int32).toNatClampNeg y14)).bind (fun qy19 => (fun (y19 : Int32) (σ20 : PS) => (if y19 = 0 then gd (inb x2 6) (gd (inb x3 60) ((if 3 ≤ (gi σ20 (rw_ 57 x2) (x3 : Int32).toNatClampNeg) then some σ20 else gd (inb x2 6) (gd (inb x3 60) (gd (inb s0 8) (gd (inb x5 8) ((if (gi (sI σ20 (rw_ 43 x2) (x3 : Int32).toNatClampNeg s0) 4 (s0 : Int32).toNatClampNeg) = (gi (sI σ20 (rw_ 43 x2) (x3 : Int32).toNatClampNeg s0) 4 (x5 : Int32).toNatClampNeg) then some (sI σ20 (rw_ 43 x2) (x3 : Int32).toNatClampNeg s0) else gd (inb s0 8) (gd (inb s0 8) ((fX5_value b 4 (gi (sI σ20 (rw_ 43 x2) (x3 : Int32).toNatClampNeg s0) 4 (s0 : Int32).toNatClampNeg) (sI σ20 (rw_ 43 x2) (x3 : Int32).toNatClampNeg s0)).bind (fun qy30 => (fun (y30 : Int32) (σ31 : PS) => (fX1_pay x2 x3 (gi (sI σ20 (rw_ 43 x2) (x3 : Int32).toNatClampNeg s0) 4 (s0 : Int32).toNatClampNeg) y30 σ31).bind (fun σ34 => some σ34)) qy30.1 qy30.2))))))))))) else some σ20)) qy19.1 qy19.2) else some (sI σ15 (rw_ 85 x2) (x3 : Int32).toNatClampNeg y14))))) qy14.1 qy14.2))))) qy7.1 qy7.2))) qy4.1 qy4.2)
set_option maxRecDepth 100000 in
set_option maxHeartbeats 4000000 in
theorem tX1_goOn_35 {b : Nat} (hb : isBk b = true) {P : PS → Prop} (x2 : Int32) (x3 : Int32) (x4 : Int32) (x5 : Int32) (s0 : Int32) (σ : PS) (h : hO (fX1_goOn_35 b x2 x3 x4 x5 s0 σ) P) : X g mX1_goOn 4 0 0 (pV P) 35 [(0, .ref 41), (1, .ref b), (2, .int x2), (3, .int x3), (4, .int x4), (5, .int x5)] [.int s0] (HP σ) := by
  unfold fX1_goOn_35 at h
  refine X_istore [(6, .int s0), (0, .ref 41), (1, .ref b), (2, .int x2), (3, .int x3), (4, .int x4), (5, .int x5)] (dk KX1_goOn 21 rfl) (by decide) rfl ?_
  refine X_aload_n 1 rfl (dk KX1_goOn 22 rfl) ?_
  refine Y_getR 3 fX1_48 (Nat.le_of_ble_eq_true rfl) rfl rfl (dk KX1_goOn 23 rfl) ?_
  refine X_iload 6 rfl (dk KX1_goOn 24 rfl) ?_
  refine Y_callVI wX1_95 (Nat.le_of_ble_eq_true rfl) rfl [.int x5] [] rfl rfl (Nat.le_of_ble_eq_true rfl) (Nat.le_of_ble_eq_true rfl) (dk KX1_goOn 25 rfl) (fun Pc h => okX2_hasInn _ _ Pc h) h (fun y4 σ5 e6 h => ?_)
  try dsimp only at h
  refine X_if_eq 61 (dk KX1_goOn 26 rfl) (by decide) (fun hc => ?_) (fun hc => ?_)
  · have h := hO_t hc h
    exact Y_vret (dk KX1_goOn 32 rfl) rfl h
  · have h := hO_f hc h
    refine X_aload_n 1 rfl (dk KX1_goOn 27 rfl) ?_
    refine Y_getR 3 fX1_48 (Nat.le_of_ble_eq_true rfl) rfl rfl (dk KX1_goOn 28 rfl) ?_
    refine X_iload 0 rfl (dk KX1_goOn 29 rfl) ?_
    refine Y_callVI wX1_95 (Nat.le_of_ble_eq_true rfl) rfl [.int s0] [] rfl rfl (Nat.le_of_ble_eq_true rfl) (Nat.le_of_ble_eq_true rfl) (dk KX1_goOn 30 rfl) (fun Pc h => okX2_hasInn _ _ Pc h) h (fun y7 σ8 e9 h => ?_)
    try dsimp only at h
    refine X_if_ne 62 (dk KX1_goOn 31 rfl) (by decide) (fun hc => ?_) (fun hc => ?_)
    · have h := hO_f hc h
      refine X_aload_n 1 rfl (dk KX1_goOn 33 rfl) ?_
      refine X_iload_n 3 rfl (dk KX1_goOn 34 rfl) ?_
      refine X_iload_n 4 rfl (dk KX1_goOn 35 rfl) ?_
      refine X_iload 0 rfl (dk KX1_goOn 36 rfl) ?_
      refine Y_callVV wX1_99 (Nat.le_of_ble_eq_true rfl) rfl [.int x2, .int x3, .int s0] [] rfl rfl (Nat.le_of_ble_eq_true rfl) (Nat.le_of_ble_eq_true rfl) (dk KX1_goOn 37 rfl) (fun Pc h => okX1_setVars _ _ _ _ Pc h) h (fun σ11 e12 h => ?_)
      try dsimp only at h
      refine X_aload_n 2 rfl (dk KX1_goOn 38 rfl) ?_
      refine X_iconst (dk KX1_goOn 39 rfl) 5 (by decide) ?_
      refine X_aload_n 1 rfl (dk KX1_goOn 40 rfl) ?_
      refine Y_getR 3 fX1_48 (Nat.le_of_ble_eq_true rfl) rfl rfl (dk KX1_goOn 41 rfl) ?_
      refine Y_getR 4 fX1_103 (Nat.le_of_ble_eq_true rfl) rfl rfl (dk KX1_goOn 42 rfl) ?_
      refine X_iload 0 rfl (dk KX1_goOn 43 rfl) ?_
      refine Y_iald (Nat.le_of_ble_eq_true rfl) rfl (dk KX1_goOn 44 rfl) h (fun hi13 h => ?_)
      refine X_aload_n 1 rfl (dk KX1_goOn 45 rfl) ?_
      refine Y_getR 42 fX1_9 (Nat.le_of_ble_eq_true rfl) rfl rfl (dk KX1_goOn 46 rfl) ?_
      refine Y_callVI wX1_106 (bk_lt hb) (bk_ob hb) [.int 5, .int (gi σ11 4 (s0 : Int32).toNatClampNeg), .ref 42] [] rfl rfl (Nat.le_of_ble_eq_true rfl) (Nat.le_of_ble_eq_true rfl) (dk KX1_goOn 47 rfl) (fun Pc h => okX5_firstThatHolds hb _ _ _ Pc h) h (fun y14 σ15 e16 h => ?_)
      try dsimp only at h
      refine X_istore [(7, .int y14), (6, .int s0), (0, .ref 41), (1, .ref b), (2, .int x2), (3, .int x3), (4, .int x4), (5, .int x5)] (dk KX1_goOn 48 rfl) (by decide) rfl ?_
      refine X_aload_n 2 rfl (dk KX1_goOn 49 rfl) ?_
      refine Y_getR 85 fX1_35 (Nat.le_of_ble_eq_true rfl) rfl rfl (dk KX1_goOn 50 rfl) ?_
      refine X_iload_n 4 rfl (dk KX1_goOn 51 rfl) ?_
      refine Y_aald (rw_ 85 x2) (Nat.le_of_ble_eq_true rfl) rfl (gr85_rf _ _) (dk KX1_goOn 52 rfl) h (fun hi17 h => ?_)
      refine X_iload_n 5 rfl (dk KX1_goOn 53 rfl) ?_
      refine X_iload 0 rfl (dk KX1_goOn 54 rfl) ?_
      refine Y_iast (gr85_lt hi17) (gr85_ob hi17) (dk KX1_goOn 55 rfl) h (fun hi18 h => ?_)
      refine X_iload 0 rfl (dk KX1_goOn 56 rfl) ?_
      refine X_iconst (dk KX1_goOn 57 rfl) (-1) (by decide) ?_
      refine X_icmp_ne 207 (dk KX1_goOn 58 rfl) (by decide) (fun hc => ?_) (fun hc => ?_)
      · have h := hO_f hc h
        exact Y_vret (dk KX1_goOn 113 rfl) rfl h
      · have h := hO_t hc h
        refine X_aload_n 2 rfl (dk KX1_goOn 59 rfl) ?_
        refine Y_getR 25 fX1_52 (Nat.le_of_ble_eq_true rfl) rfl rfl (dk KX1_goOn 60 rfl) ?_
        refine X_iload 7 rfl (dk KX1_goOn 61 rfl) ?_
        refine X_iload 1 rfl (dk KX1_goOn 62 rfl) ?_
        refine Y_min (Nat.le_of_ble_eq_true rfl) (Nat.le_of_ble_eq_true rfl) mlX1_112 (dk KX1_goOn 63 rfl) ?_
        refine X_iload_n 5 rfl (dk KX1_goOn 64 rfl) ?_
        refine X_iload 6 rfl (dk KX1_goOn 65 rfl) ?_
        refine Y_callVI wX1_118 (Nat.le_of_ble_eq_true rfl) rfl [.int (imin x5 s0), .int x3, .int x4] [] rfl rfl (Nat.le_of_ble_eq_true rfl) (Nat.le_of_ble_eq_true rfl) (dk KX1_goOn 66 rfl) (fun Pc h => okX0_isShut _ _ _ _ Pc h) h (fun y19 σ20 e21 h => ?_)
        try dsimp only at h
        refine X_if_ne 207 (dk KX1_goOn 67 rfl) (by decide) (fun hc => ?_) (fun hc => ?_)
        · have h := hO_f hc h
          exact Y_vret (dk KX1_goOn 113 rfl) rfl h
        · have h := hO_t hc h
          refine X_aload_n 2 rfl (dk KX1_goOn 68 rfl) ?_
          refine Y_getR 57 fX1_23 (Nat.le_of_ble_eq_true rfl) rfl rfl (dk KX1_goOn 69 rfl) ?_
          refine X_iload_n 4 rfl (dk KX1_goOn 70 rfl) ?_
          refine Y_aald (rw_ 57 x2) (Nat.le_of_ble_eq_true rfl) rfl (gr57_rf _ _) (dk KX1_goOn 71 rfl) h (fun hi22 h => ?_)
          refine X_iload_n 5 rfl (dk KX1_goOn 72 rfl) ?_
          refine Y_iald (gr57_lt hi22) (gr57_ob hi22) (dk KX1_goOn 73 rfl) h (fun hi23 h => ?_)
          refine X_iconst (dk KX1_goOn 74 rfl) 3 (by decide) ?_
          refine X_icmp_ge 207 (dk KX1_goOn 75 rfl) (by decide) (fun hc => ?_) (fun hc => ?_)
          · have h := hO_t hc h
            exact Y_vret (dk KX1_goOn 113 rfl) rfl h
          · have h := hO_f hc h
            refine X_aload_n 2 rfl (dk KX1_goOn 76 rfl) ?_
            refine Y_getR 43 fX1_17 (Nat.le_of_ble_eq_true rfl) rfl rfl (dk KX1_goOn 77 rfl) ?_
            refine X_iload_n 4 rfl (dk KX1_goOn 78 rfl) ?_
            refine Y_aald (rw_ 43 x2) (Nat.le_of_ble_eq_true rfl) rfl (gr43_rf _ _) (dk KX1_goOn 79 rfl) h (fun hi24 h => ?_)
            refine X_iload_n 5 rfl (dk KX1_goOn 80 rfl) ?_
            refine X_iload 1 rfl (dk KX1_goOn 81 rfl) ?_
            refine Y_iast (gr43_lt hi24) (gr43_ob hi24) (dk KX1_goOn 82 rfl) h (fun hi25 h => ?_)
            refine X_aload_n 2 rfl (dk KX1_goOn 83 rfl) ?_
            refine Y_getR 3 fX1_48 (Nat.le_of_ble_eq_true rfl) rfl rfl (dk KX1_goOn 84 rfl) ?_
            refine Y_getR 4 fX1_103 (Nat.le_of_ble_eq_true rfl) rfl rfl (dk KX1_goOn 85 rfl) ?_
            refine X_iload 1 rfl (dk KX1_goOn 86 rfl) ?_
            refine Y_iald (Nat.le_of_ble_eq_true rfl) rfl (dk KX1_goOn 87 rfl) h (fun hi26 h => ?_)
            refine X_aload_n 2 rfl (dk KX1_goOn 88 rfl) ?_
            refine Y_getR 3 fX1_48 (Nat.le_of_ble_eq_true rfl) rfl rfl (dk KX1_goOn 89 rfl) ?_
            refine Y_getR 4 fX1_103 (Nat.le_of_ble_eq_true rfl) rfl rfl (dk KX1_goOn 90 rfl) ?_
            refine X_iload 7 rfl (dk KX1_goOn 91 rfl) ?_
            refine Y_iald (Nat.le_of_ble_eq_true rfl) rfl (dk KX1_goOn 92 rfl) h (fun hi27 h => ?_)
            refine X_icmp_eq 207 (dk KX1_goOn 93 rfl) (by decide) (fun hc => ?_) (fun hc => ?_)
            · have h := hO_t hc h
              exact Y_vret (dk KX1_goOn 113 rfl) rfl h
            · have h := hO_f hc h
              refine X_aload_n 2 rfl (dk KX1_goOn 94 rfl) ?_
              refine X_iload_n 4 rfl (dk KX1_goOn 95 rfl) ?_
              refine X_iload_n 5 rfl (dk KX1_goOn 96 rfl) ?_
              refine X_aload_n 2 rfl (dk KX1_goOn 97 rfl) ?_
              refine Y_getR 3 fX1_48 (Nat.le_of_ble_eq_true rfl) rfl rfl (dk KX1_goOn 98 rfl) ?_
              refine Y_getR 4 fX1_103 (Nat.le_of_ble_eq_true rfl) rfl rfl (dk KX1_goOn 99 rfl) ?_
              refine X_iload 1 rfl (dk KX1_goOn 100 rfl) ?_
              refine Y_iald (Nat.le_of_ble_eq_true rfl) rfl (dk KX1_goOn 101 rfl) h (fun hi28 h => ?_)
              refine X_aload_n 3 rfl (dk KX1_goOn 102 rfl) ?_
              refine X_iconst (dk KX1_goOn 103 rfl) 4 (by decide) ?_
              refine X_aload_n 2 rfl (dk KX1_goOn 104 rfl) ?_
              refine Y_getR 3 fX1_48 (Nat.le_of_ble_eq_true rfl) rfl rfl (dk KX1_goOn 105 rfl) ?_
              refine Y_getR 4 fX1_103 (Nat.le_of_ble_eq_true rfl) rfl rfl (dk KX1_goOn 106 rfl) ?_
              refine X_iload 1 rfl (dk KX1_goOn 107 rfl) ?_
              refine Y_iald (Nat.le_of_ble_eq_true rfl) rfl (dk KX1_goOn 108 rfl) h (fun hi29 h => ?_)
              refine X_aload_n 2 rfl (dk KX1_goOn 109 rfl) ?_
              refine Y_getR 42 fX1_9 (Nat.le_of_ble_eq_true rfl) rfl rfl (dk KX1_goOn 110 rfl) ?_
              refine Y_callVI wX1_122 (bk_lt hb) (bk_ob hb) [.int 4, .int (gi (sI σ20 (rw_ 43 x2) (x3 : Int32).toNatClampNeg s0) 4 (s0 : Int32).toNatClampNeg), .ref 42] [.int (gi (sI σ20 (rw_ 43 x2) (x3 : Int32).toNatClampNeg s0) 4 (s0 : Int32).toNatClampNeg), .int x3, .int x2, .ref 41] rfl rfl (Nat.le_of_ble_eq_true rfl) (Nat.le_of_ble_eq_true rfl) (dk KX1_goOn 111 rfl) (fun Pc h => okX5_value hb _ _ _ Pc h) h (fun y30 σ31 e32 h => ?_)
              try dsimp only at h
              refine Y_callVV wX1_125 (Nat.le_of_ble_eq_true rfl) rfl [.int x2, .int x3, .int (gi (sI σ20 (rw_ 43 x2) (x3 : Int32).toNatClampNeg s0) 4 (s0 : Int32).toNatClampNeg), .int y30] [] rfl rfl (Nat.le_of_ble_eq_true rfl) (Nat.le_of_ble_eq_true rfl) (dk KX1_goOn 112 rfl) (fun Pc h => okX1_pay _ _ _ _ _ Pc h) h (fun σ34 e35 h => ?_)
              try dsimp only at h
              exact Y_vret (dk KX1_goOn 113 rfl) rfl h
    · have h := hO_t hc h
      exact Y_vret (dk KX1_goOn 32 rfl) rfl h
def fX1_goOn (b : Nat) (a2 : Int32) (a3 : Int32) (a4 : Int32) (σ : PS) : Option (PS) := gd (inb a2 6) (gd (inb a3 60) (gd (inb a2 6) ((if (gi σ 21 (a2 : Int32).toNatClampNeg) ≤ (gi σ (rw_ 43 a2) (a3 : Int32).toNatClampNeg) then fX1_goOn_35 b a2 a3 a4 (gi σ (rw_ 43 a2) (a3 : Int32).toNatClampNeg) ((gi σ (rw_ 43 a2) (a3 : Int32).toNatClampNeg) - 1) σ else fX1_goOn_35 b a2 a3 a4 (gi σ (rw_ 43 a2) (a3 : Int32).toNatClampNeg) ((gi σ (rw_ 43 a2) (a3 : Int32).toNatClampNeg) + 1) σ))))
set_option maxRecDepth 100000 in
set_option maxHeartbeats 4000000 in
theorem okX1_goOn {b : Nat} (hb : isBk b = true) (a2 : Int32) (a3 : Int32) (a4 : Int32) (σ : PS) (P : PS → Prop) (h : hO (fX1_goOn b a2 a3 a4 σ) P) : CON g mX1_goOn 4 0 0 [.ref 41, .ref b, .int a2, .int a3, .int a4] (HP σ) (pV P) := by
  refine CON.of (by decide) (by simp [lg_sl, Value.category]) ?_
  show X g _ _ _ _ _ 0 [(0, .ref 41), (1, .ref b), (2, .int a2), (3, .int a3), (4, .int a4)] [] _
  unfold fX1_goOn at h
  refine X_aload_n 0 rfl (dk KX1_goOn 0 rfl) ?_
  refine Y_getR 43 fX1_17 (Nat.le_of_ble_eq_true rfl) rfl rfl (dk KX1_goOn 1 rfl) ?_
  refine X_iload_n 2 rfl (dk KX1_goOn 2 rfl) ?_
  refine Y_aald (rw_ 43 a2) (Nat.le_of_ble_eq_true rfl) rfl (gr43_rf _ _) (dk KX1_goOn 3 rfl) h (fun hi1 h => ?_)
  refine X_iload_n 3 rfl (dk KX1_goOn 4 rfl) ?_
  refine Y_iald (gr43_lt hi1) (gr43_ob hi1) (dk KX1_goOn 5 rfl) h (fun hi2 h => ?_)
  refine X_istore [(5, .int (gi σ (rw_ 43 a2) (a3 : Int32).toNatClampNeg)), (0, .ref 41), (1, .ref b), (2, .int a2), (3, .int a3), (4, .int a4)] (dk KX1_goOn 6 rfl) (by decide) rfl ?_
  refine X_iload 0 rfl (dk KX1_goOn 7 rfl) ?_
  refine X_aload_n 1 rfl (dk KX1_goOn 8 rfl) ?_
  refine Y_getR 3 fX1_48 (Nat.le_of_ble_eq_true rfl) rfl rfl (dk KX1_goOn 9 rfl) ?_
  refine Y_getR 21 fX1_92 (Nat.le_of_ble_eq_true rfl) rfl rfl (dk KX1_goOn 10 rfl) ?_
  refine X_iload_n 3 rfl (dk KX1_goOn 11 rfl) ?_
  refine Y_iald (Nat.le_of_ble_eq_true rfl) rfl (dk KX1_goOn 12 rfl) h (fun hi3 h => ?_)
  refine X_icmp_ge 31 (dk KX1_goOn 13 rfl) (by decide) (fun hc => ?_) (fun hc => ?_)
  · have h := hO_t hc h
    refine X_iload 0 rfl (dk KX1_goOn 18 rfl) ?_
    refine X_iconst (dk KX1_goOn 19 rfl) 1 (by decide) ?_
    refine X_isub (dk KX1_goOn 20 rfl) ?_
    refine X_sub [(0, .ref 41), (1, .ref b), (2, .int a2), (3, .int a3), (4, .int a4), (5, .int (gi σ (rw_ 43 a2) (a3 : Int32).toNatClampNeg))] [1, 2, 3, 4, 5, 0] rfl ?_
    exact tX1_goOn_35 hb a2 a3 a4 (gi σ (rw_ 43 a2) (a3 : Int32).toNatClampNeg) ((gi σ (rw_ 43 a2) (a3 : Int32).toNatClampNeg) - 1) σ h
  · have h := hO_f hc h
    refine X_iload 0 rfl (dk KX1_goOn 14 rfl) ?_
    refine X_iconst (dk KX1_goOn 15 rfl) 1 (by decide) ?_
    refine X_iadd (dk KX1_goOn 16 rfl) ?_
    refine X_goto 35 (dk KX1_goOn 17 rfl) (by decide) ?_
    refine X_sub [(0, .ref 41), (1, .ref b), (2, .int a2), (3, .int a3), (4, .int a4), (5, .int (gi σ (rw_ 43 a2) (a3 : Int32).toNatClampNeg))] [1, 2, 3, 4, 5, 0] rfl ?_
    exact tX1_goOn_35 hb a2 a3 a4 (gi σ (rw_ 43 a2) (a3 : Int32).toNatClampNeg) ((gi σ (rw_ 43 a2) (a3 : Int32).toNatClampNeg) + 1) σ h

def fX1_wake_131 (x1 : Int32) (x2 : Int32) (q0 : Int32) (s1 : Int32) (s2 : Int32) (σ : PS) : Option (PS) := gd (inb s1 60) (gd (inb x1 6) (gd (inb x2 60) (gd (inb x1 6) (gd (inb x2 60) (some (sI (sI (sI σ (rw_ 71 q0) (s1 : Int32).toNatClampNeg s2) (rw_ 78 x1) (x2 : Int32).toNatClampNeg 0) (rw_ 85 x1) (x2 : Int32).toNatClampNeg (-1)))))))
set_option maxRecDepth 100000 in
set_option maxHeartbeats 4000000 in
theorem tX1_wake_131 {P : PS → Prop} (x1 : Int32) (x2 : Int32) (q0 : Int32) (s1 : Int32) (s2 : Int32) (σ : PS) (hq0 : inb q0 6 = true) (h : hO (fX1_wake_131 x1 x2 q0 s1 s2 σ) P) : X g mX1_wake 0 0 0 (pV P) 131 [(0, .ref 41), (1, .int x1), (2, .int x2)] [.int s2, .int s1, .ref (rw_ 71 q0)] (HP σ) := by
  unfold fX1_wake_131 at h
  refine Y_iast (gr71_lt hq0) (gr71_ob hq0) (dk KX1_wake 89 rfl) h (fun hi19 h => ?_)
  refine X_aload_n 0 rfl (dk KX1_wake 90 rfl) ?_
  refine Y_getR 78 fX1_32 (Nat.le_of_ble_eq_true rfl) rfl rfl (dk KX1_wake 91 rfl) ?_
  refine X_iload_n 1 rfl (dk KX1_wake 92 rfl) ?_
  refine Y_aald (rw_ 78 x1) (Nat.le_of_ble_eq_true rfl) rfl (gr78_rf _ _) (dk KX1_wake 93 rfl) h (fun hi20 h => ?_)
  refine X_iload_n 2 rfl (dk KX1_wake 94 rfl) ?_
  refine X_iconst (dk KX1_wake 95 rfl) 0 (by decide) ?_
  refine Y_iast (gr78_lt hi20) (gr78_ob hi20) (dk KX1_wake 96 rfl) h (fun hi21 h => ?_)
  refine X_aload_n 0 rfl (dk KX1_wake 97 rfl) ?_
  refine Y_getR 85 fX1_35 (Nat.le_of_ble_eq_true rfl) rfl rfl (dk KX1_wake 98 rfl) ?_
  refine X_iload_n 1 rfl (dk KX1_wake 99 rfl) ?_
  refine Y_aald (rw_ 85 x1) (Nat.le_of_ble_eq_true rfl) rfl (gr85_rf _ _) (dk KX1_wake 100 rfl) h (fun hi22 h => ?_)
  refine X_iload_n 2 rfl (dk KX1_wake 101 rfl) ?_
  refine X_iconst (dk KX1_wake 102 rfl) (-1) (by decide) ?_
  refine Y_iast (gr85_lt hi22) (gr85_ob hi22) (dk KX1_wake 103 rfl) h (fun hi23 h => ?_)
  exact Y_vret (dk KX1_wake 104 rfl) rfl h
def fX1_wake_105 (x1 : Int32) (x2 : Int32) (q0 : Int32) (s1 : Int32) (s2 : Int32) (σ : PS) : Option (PS) := gd (inb s1 60) (gd (inb x1 6) ((if x2 = 0 then fX1_wake_131 x1 x2 x1 x2 0 (sI σ (rw_ 64 q0) (s1 : Int32).toNatClampNeg s2) else gd (inb x1 6) (gd (inb (x2 - 1) 60) (fX1_wake_131 x1 x2 x1 x2 (gi (sI σ (rw_ 64 q0) (s1 : Int32).toNatClampNeg s2) (rw_ 71 x1) ((x2 - 1) : Int32).toNatClampNeg) (sI σ (rw_ 64 q0) (s1 : Int32).toNatClampNeg s2))))))
set_option maxRecDepth 100000 in
set_option maxHeartbeats 4000000 in
theorem tX1_wake_105 {P : PS → Prop} (x1 : Int32) (x2 : Int32) (q0 : Int32) (s1 : Int32) (s2 : Int32) (σ : PS) (hq0 : inb q0 6 = true) (h : hO (fX1_wake_105 x1 x2 q0 s1 s2 σ) P) : X g mX1_wake 0 0 0 (pV P) 105 [(0, .ref 41), (1, .int x1), (2, .int x2)] [.int s2, .int s1, .ref (rw_ 64 q0)] (HP σ) := by
  unfold fX1_wake_105 at h
  refine Y_iast (gr64_lt hq0) (gr64_ob hq0) (dk KX1_wake 71 rfl) h (fun hi15 h => ?_)
  refine X_aload_n 0 rfl (dk KX1_wake 72 rfl) ?_
  refine Y_getR 71 fX1_29 (Nat.le_of_ble_eq_true rfl) rfl rfl (dk KX1_wake 73 rfl) ?_
  refine X_iload_n 1 rfl (dk KX1_wake 74 rfl) ?_
  refine Y_aald (rw_ 71 x1) (Nat.le_of_ble_eq_true rfl) rfl (gr71_rf _ _) (dk KX1_wake 75 rfl) h (fun hi16 h => ?_)
  refine X_iload_n 2 rfl (dk KX1_wake 76 rfl) ?_
  refine X_iload_n 2 rfl (dk KX1_wake 77 rfl) ?_
  refine X_if_ne 121 (dk KX1_wake 78 rfl) (by decide) (fun hc => ?_) (fun hc => ?_)
  · have h := hO_f hc h
    refine X_aload_n 0 rfl (dk KX1_wake 81 rfl) ?_
    refine Y_getR 71 fX1_29 (Nat.le_of_ble_eq_true rfl) rfl rfl (dk KX1_wake 82 rfl) ?_
    refine X_iload_n 1 rfl (dk KX1_wake 83 rfl) ?_
    refine Y_aald (rw_ 71 x1) (Nat.le_of_ble_eq_true rfl) rfl (gr71_rf _ _) (dk KX1_wake 84 rfl) h (fun hi17 h => ?_)
    refine X_iload_n 2 rfl (dk KX1_wake 85 rfl) ?_
    refine X_iconst (dk KX1_wake 86 rfl) 1 (by decide) ?_
    refine X_isub (dk KX1_wake 87 rfl) ?_
    refine Y_iald (gr71_lt hi17) (gr71_ob hi17) (dk KX1_wake 88 rfl) h (fun hi18 h => ?_)
    exact tX1_wake_131 x1 x2 x1 x2 (gi (sI σ (rw_ 64 q0) (s1 : Int32).toNatClampNeg s2) (rw_ 71 x1) ((x2 - 1) : Int32).toNatClampNeg) (sI σ (rw_ 64 q0) (s1 : Int32).toNatClampNeg s2) hi16 h
  · have h := hO_t hc h
    refine X_iconst (dk KX1_wake 79 rfl) 0 (by decide) ?_
    refine X_goto 131 (dk KX1_wake 80 rfl) (by decide) ?_
    exact tX1_wake_131 x1 x2 x1 x2 0 (sI σ (rw_ 64 q0) (s1 : Int32).toNatClampNeg s2) hi16 h
def fX1_wake_79 (x1 : Int32) (x2 : Int32) (q0 : Int32) (s1 : Int32) (s2 : Int32) (σ : PS) : Option (PS) := gd (inb s1 60) (gd (inb x1 6) ((if x2 = 0 then fX1_wake_105 x1 x2 x1 x2 0 (sI σ (rw_ 57 q0) (s1 : Int32).toNatClampNeg s2) else gd (inb x1 6) (gd (inb (x2 - 1) 60) (fX1_wake_105 x1 x2 x1 x2 (gi (sI σ (rw_ 57 q0) (s1 : Int32).toNatClampNeg s2) (rw_ 64 x1) ((x2 - 1) : Int32).toNatClampNeg) (sI σ (rw_ 57 q0) (s1 : Int32).toNatClampNeg s2))))))
set_option maxRecDepth 100000 in
set_option maxHeartbeats 4000000 in
theorem tX1_wake_79 {P : PS → Prop} (x1 : Int32) (x2 : Int32) (q0 : Int32) (s1 : Int32) (s2 : Int32) (σ : PS) (hq0 : inb q0 6 = true) (h : hO (fX1_wake_79 x1 x2 q0 s1 s2 σ) P) : X g mX1_wake 0 0 0 (pV P) 79 [(0, .ref 41), (1, .int x1), (2, .int x2)] [.int s2, .int s1, .ref (rw_ 57 q0)] (HP σ) := by
  unfold fX1_wake_79 at h
  refine Y_iast (gr57_lt hq0) (gr57_ob hq0) (dk KX1_wake 53 rfl) h (fun hi11 h => ?_)
  refine X_aload_n 0 rfl (dk KX1_wake 54 rfl) ?_
  refine Y_getR 64 fX1_26 (Nat.le_of_ble_eq_true rfl) rfl rfl (dk KX1_wake 55 rfl) ?_
  refine X_iload_n 1 rfl (dk KX1_wake 56 rfl) ?_
  refine Y_aald (rw_ 64 x1) (Nat.le_of_ble_eq_true rfl) rfl (gr64_rf _ _) (dk KX1_wake 57 rfl) h (fun hi12 h => ?_)
  refine X_iload_n 2 rfl (dk KX1_wake 58 rfl) ?_
  refine X_iload_n 2 rfl (dk KX1_wake 59 rfl) ?_
  refine X_if_ne 95 (dk KX1_wake 60 rfl) (by decide) (fun hc => ?_) (fun hc => ?_)
  · have h := hO_f hc h
    refine X_aload_n 0 rfl (dk KX1_wake 63 rfl) ?_
    refine Y_getR 64 fX1_26 (Nat.le_of_ble_eq_true rfl) rfl rfl (dk KX1_wake 64 rfl) ?_
    refine X_iload_n 1 rfl (dk KX1_wake 65 rfl) ?_
    refine Y_aald (rw_ 64 x1) (Nat.le_of_ble_eq_true rfl) rfl (gr64_rf _ _) (dk KX1_wake 66 rfl) h (fun hi13 h => ?_)
    refine X_iload_n 2 rfl (dk KX1_wake 67 rfl) ?_
    refine X_iconst (dk KX1_wake 68 rfl) 1 (by decide) ?_
    refine X_isub (dk KX1_wake 69 rfl) ?_
    refine Y_iald (gr64_lt hi13) (gr64_ob hi13) (dk KX1_wake 70 rfl) h (fun hi14 h => ?_)
    exact tX1_wake_105 x1 x2 x1 x2 (gi (sI σ (rw_ 57 q0) (s1 : Int32).toNatClampNeg s2) (rw_ 64 x1) ((x2 - 1) : Int32).toNatClampNeg) (sI σ (rw_ 57 q0) (s1 : Int32).toNatClampNeg s2) hi12 h
  · have h := hO_t hc h
    refine X_iconst (dk KX1_wake 61 rfl) 0 (by decide) ?_
    refine X_goto 105 (dk KX1_wake 62 rfl) (by decide) ?_
    exact tX1_wake_105 x1 x2 x1 x2 0 (sI σ (rw_ 57 q0) (s1 : Int32).toNatClampNeg s2) hi12 h
def fX1_wake_44 (x1 : Int32) (x2 : Int32) (q0 : Int32) (s1 : Int32) (s2 : Int32) (σ : PS) : Option (PS) := gd (inb s1 60) (gd (inb x1 6) (gd (inb x2 60) (gd (inb x1 6) ((if x2 = 0 then fX1_wake_79 x1 x2 x1 x2 0 (sI (sI σ (rw_ 43 q0) (s1 : Int32).toNatClampNeg s2) (rw_ 50 x1) (x2 : Int32).toNatClampNeg (-1)) else gd (inb x1 6) (gd (inb (x2 - 1) 60) (fX1_wake_79 x1 x2 x1 x2 (gi (sI (sI σ (rw_ 43 q0) (s1 : Int32).toNatClampNeg s2) (rw_ 50 x1) (x2 : Int32).toNatClampNeg (-1)) (rw_ 57 x1) ((x2 - 1) : Int32).toNatClampNeg) (sI (sI σ (rw_ 43 q0) (s1 : Int32).toNatClampNeg s2) (rw_ 50 x1) (x2 : Int32).toNatClampNeg (-1)))))))))
set_option maxRecDepth 100000 in
set_option maxHeartbeats 4000000 in
theorem tX1_wake_44 {P : PS → Prop} (x1 : Int32) (x2 : Int32) (q0 : Int32) (s1 : Int32) (s2 : Int32) (σ : PS) (hq0 : inb q0 6 = true) (h : hO (fX1_wake_44 x1 x2 q0 s1 s2 σ) P) : X g mX1_wake 0 0 0 (pV P) 44 [(0, .ref 41), (1, .int x1), (2, .int x2)] [.int s2, .int s1, .ref (rw_ 43 q0)] (HP σ) := by
  unfold fX1_wake_44 at h
  refine Y_iast (gr43_lt hq0) (gr43_ob hq0) (dk KX1_wake 28 rfl) h (fun hi5 h => ?_)
  refine X_aload_n 0 rfl (dk KX1_wake 29 rfl) ?_
  refine Y_getR 50 fX1_20 (Nat.le_of_ble_eq_true rfl) rfl rfl (dk KX1_wake 30 rfl) ?_
  refine X_iload_n 1 rfl (dk KX1_wake 31 rfl) ?_
  refine Y_aald (rw_ 50 x1) (Nat.le_of_ble_eq_true rfl) rfl (gr50_rf _ _) (dk KX1_wake 32 rfl) h (fun hi6 h => ?_)
  refine X_iload_n 2 rfl (dk KX1_wake 33 rfl) ?_
  refine X_iconst (dk KX1_wake 34 rfl) (-1) (by decide) ?_
  refine Y_iast (gr50_lt hi6) (gr50_ob hi6) (dk KX1_wake 35 rfl) h (fun hi7 h => ?_)
  refine X_aload_n 0 rfl (dk KX1_wake 36 rfl) ?_
  refine Y_getR 57 fX1_23 (Nat.le_of_ble_eq_true rfl) rfl rfl (dk KX1_wake 37 rfl) ?_
  refine X_iload_n 1 rfl (dk KX1_wake 38 rfl) ?_
  refine Y_aald (rw_ 57 x1) (Nat.le_of_ble_eq_true rfl) rfl (gr57_rf _ _) (dk KX1_wake 39 rfl) h (fun hi8 h => ?_)
  refine X_iload_n 2 rfl (dk KX1_wake 40 rfl) ?_
  refine X_iload_n 2 rfl (dk KX1_wake 41 rfl) ?_
  refine X_if_ne 69 (dk KX1_wake 42 rfl) (by decide) (fun hc => ?_) (fun hc => ?_)
  · have h := hO_f hc h
    refine X_aload_n 0 rfl (dk KX1_wake 45 rfl) ?_
    refine Y_getR 57 fX1_23 (Nat.le_of_ble_eq_true rfl) rfl rfl (dk KX1_wake 46 rfl) ?_
    refine X_iload_n 1 rfl (dk KX1_wake 47 rfl) ?_
    refine Y_aald (rw_ 57 x1) (Nat.le_of_ble_eq_true rfl) rfl (gr57_rf _ _) (dk KX1_wake 48 rfl) h (fun hi9 h => ?_)
    refine X_iload_n 2 rfl (dk KX1_wake 49 rfl) ?_
    refine X_iconst (dk KX1_wake 50 rfl) 1 (by decide) ?_
    refine X_isub (dk KX1_wake 51 rfl) ?_
    refine Y_iald (gr57_lt hi9) (gr57_ob hi9) (dk KX1_wake 52 rfl) h (fun hi10 h => ?_)
    exact tX1_wake_79 x1 x2 x1 x2 (gi (sI (sI σ (rw_ 43 q0) (s1 : Int32).toNatClampNeg s2) (rw_ 50 x1) (x2 : Int32).toNatClampNeg (-1)) (rw_ 57 x1) ((x2 - 1) : Int32).toNatClampNeg) (sI (sI σ (rw_ 43 q0) (s1 : Int32).toNatClampNeg s2) (rw_ 50 x1) (x2 : Int32).toNatClampNeg (-1)) hi8 h
  · have h := hO_t hc h
    refine X_iconst (dk KX1_wake 43 rfl) 0 (by decide) ?_
    refine X_goto 79 (dk KX1_wake 44 rfl) (by decide) ?_
    exact tX1_wake_79 x1 x2 x1 x2 0 (sI (sI σ (rw_ 43 q0) (s1 : Int32).toNatClampNeg s2) (rw_ 50 x1) (x2 : Int32).toNatClampNeg (-1)) hi8 h
def fX1_wake_18 (x1 : Int32) (x2 : Int32) (s0 : Int32) (σ : PS) : Option (PS) := gd (inb x1 6) (gd (inb x1 6) ((if s0 = (gi σ 21 (x1 : Int32).toNatClampNeg) then fX1_wake_44 x1 x2 x1 x2 (-1) σ else fX1_wake_44 x1 x2 x1 x2 s0 σ)))
set_option maxRecDepth 100000 in
set_option maxHeartbeats 4000000 in
theorem tX1_wake_18 {P : PS → Prop} (x1 : Int32) (x2 : Int32) (s0 : Int32) (σ : PS) (h : hO (fX1_wake_18 x1 x2 s0 σ) P) : X g mX1_wake 0 0 0 (pV P) 18 [(0, .ref 41), (1, .int x1), (2, .int x2)] [.int s0] (HP σ) := by
  unfold fX1_wake_18 at h
  refine X_istore_n [(3, .int s0), (0, .ref 41), (1, .int x1), (2, .int x2)] (dk KX1_wake 12 rfl) (by decide) rfl ?_
  refine X_aload_n 1 rfl (dk KX1_wake 13 rfl) ?_
  refine Y_getR 43 fX1_17 (Nat.le_of_ble_eq_true rfl) rfl rfl (dk KX1_wake 14 rfl) ?_
  refine X_iload_n 2 rfl (dk KX1_wake 15 rfl) ?_
  refine Y_aald (rw_ 43 x1) (Nat.le_of_ble_eq_true rfl) rfl (gr43_rf _ _) (dk KX1_wake 16 rfl) h (fun hi3 h => ?_)
  refine X_iload_n 3 rfl (dk KX1_wake 17 rfl) ?_
  refine X_iload_n 0 rfl (dk KX1_wake 18 rfl) ?_
  refine X_aload_n 1 rfl (dk KX1_wake 19 rfl) ?_
  refine Y_getR 3 fX1_48 (Nat.le_of_ble_eq_true rfl) rfl rfl (dk KX1_wake 20 rfl) ?_
  refine Y_getR 21 fX1_92 (Nat.le_of_ble_eq_true rfl) rfl rfl (dk KX1_wake 21 rfl) ?_
  refine X_iload_n 2 rfl (dk KX1_wake 22 rfl) ?_
  refine Y_iald (Nat.le_of_ble_eq_true rfl) rfl (dk KX1_wake 23 rfl) h (fun hi4 h => ?_)
  refine X_icmp_ne 43 (dk KX1_wake 24 rfl) (by decide) (fun hc => ?_) (fun hc => ?_)
  · have h := hO_f hc h
    refine X_iload_n 0 rfl (dk KX1_wake 27 rfl) ?_
    refine X_sub [(0, .ref 41), (1, .int x1), (2, .int x2)] [1, 2, 3] rfl ?_
    exact tX1_wake_44 x1 x2 x1 x2 s0 σ hi3 h
  · have h := hO_t hc h
    refine X_iconst (dk KX1_wake 25 rfl) (-1) (by decide) ?_
    refine X_goto 44 (dk KX1_wake 26 rfl) (by decide) ?_
    refine X_sub [(0, .ref 41), (1, .int x1), (2, .int x2)] [1, 2, 3] rfl ?_
    exact tX1_wake_44 x1 x2 x1 x2 (-1) σ hi3 h
def fX1_wake (a1 : Int32) (a2 : Int32) (σ : PS) : Option (PS) := (if a2 = 0 then fX1_wake_18 a1 a2 (-1) σ else gd (inb a1 6) (gd (inb (a2 - 1) 60) (fX1_wake_18 a1 a2 (gi σ (rw_ 43 a1) ((a2 - 1) : Int32).toNatClampNeg) σ)))
set_option maxRecDepth 100000 in
set_option maxHeartbeats 4000000 in
theorem okX1_wake (a1 : Int32) (a2 : Int32) (σ : PS) (P : PS → Prop) (h : hO (fX1_wake a1 a2 σ) P) : CON g mX1_wake 0 0 0 [.ref 41, .int a1, .int a2] (HP σ) (pV P) := by
  refine CON.of (by decide) (by simp [lg_sl, Value.category]) ?_
  show X g _ _ _ _ _ 0 [(0, .ref 41), (1, .int a1), (2, .int a2)] [] _
  unfold fX1_wake at h
  refine X_iload_n 2 rfl (dk KX1_wake 0 rfl) ?_
  refine X_if_ne 8 (dk KX1_wake 1 rfl) (by decide) (fun hc => ?_) (fun hc => ?_)
  · have h := hO_f hc h
    refine X_aload_n 0 rfl (dk KX1_wake 4 rfl) ?_
    refine Y_getR 43 fX1_17 (Nat.le_of_ble_eq_true rfl) rfl rfl (dk KX1_wake 5 rfl) ?_
    refine X_iload_n 1 rfl (dk KX1_wake 6 rfl) ?_
    refine Y_aald (rw_ 43 a1) (Nat.le_of_ble_eq_true rfl) rfl (gr43_rf _ _) (dk KX1_wake 7 rfl) h (fun hi1 h => ?_)
    refine X_iload_n 2 rfl (dk KX1_wake 8 rfl) ?_
    refine X_iconst (dk KX1_wake 9 rfl) 1 (by decide) ?_
    refine X_isub (dk KX1_wake 10 rfl) ?_
    refine Y_iald (gr43_lt hi1) (gr43_ob hi1) (dk KX1_wake 11 rfl) h (fun hi2 h => ?_)
    exact tX1_wake_18 a1 a2 (gi σ (rw_ 43 a1) ((a2 - 1) : Int32).toNatClampNeg) σ h
  · have h := hO_t hc h
    refine X_iconst (dk KX1_wake 2 rfl) (-1) (by decide) ?_
    refine X_goto 18 (dk KX1_wake 3 rfl) (by decide) ?_
    exact tX1_wake_18 a1 a2 (-1) σ h

def fX1_morning_87 (b : Nat) (r46 : Int32 → Int32 → Int32 → PS → Option (PS)) (x2 : Int32) (x3 : Int32) (x4 : Int32) (σ : PS) : Option (PS) := r46 x2 x3 (x4 + 1) σ
set_option maxRecDepth 100000 in
set_option maxHeartbeats 4000000 in
theorem tX1_morning_87 {b : Nat} (hb : isBk b = true) {P : PS → Prop} {r46 : Int32 → Int32 → Int32 → PS → Option (PS)} (hr_46 : ∀ (x2 : Int32) (x3 : Int32) (x4 : Int32) (σ : PS), hO (r46 x2 x3 x4 σ) P → X g mX1_morning 5 0 0 (pV P) 46 [(0, .ref 41), (1, .ref b), (2, .int x2), (3, .int x3), (4, .int x4)] [] (HP σ)) (x2 : Int32) (x3 : Int32) (x4 : Int32) (σ : PS) (h : hO (fX1_morning_87 b r46 x2 x3 x4 σ) P) : X g mX1_morning 5 0 0 (pV P) 87 [(0, .ref 41), (1, .ref b), (2, .int x2), (3, .int x3), (4, .int x4)] [] (HP σ) := by
  unfold fX1_morning_87 at h
  refine X_iinc 4 1 [(4, .int (x4 + 1)), (0, .ref 41), (1, .ref b), (2, .int x2), (3, .int x3)] (dk KX1_morning 50 rfl) rfl (by decide) (by decide) rfl ?_
  refine X_goto 46 (dk KX1_morning 51 rfl) (by decide) ?_
  refine X_sub [(0, .ref 41), (1, .ref b), (2, .int x2), (3, .int x3), (4, .int (x4 + 1))] [1, 2, 3, 4, 0] rfl ?_
  exact hr_46 x2 x3 (x4 + 1) σ h
def fX1_morning_46 (b : Nat) : Nat → Int32 → Int32 → Int32 → PS → Option (PS)
  | 0, _, _, _, _ => none
  | n + 1, x2, x3, x4, σ => (if (gi σ 3 6) ≤ x4 then some σ else (fX1_wake x4 x2 σ).bind (fun σ6 => gd (inb x4 6) (gd (inb x2 60) ((if (gi σ6 (rw_ 43 x4) (x2 : Int32).toNatClampNeg) = (-1) then fX1_morning_87 b (fX1_morning_46 b n) x2 x3 x4 σ6 else (fX1_goOn b x4 x2 x3 σ6).bind (fun σ11 => fX1_morning_87 b (fX1_morning_46 b n) x2 x3 x4 σ11))))))
set_option maxRecDepth 100000 in
set_option maxHeartbeats 4000000 in
theorem tX1_morning_46 {b : Nat} (hb : isBk b = true) {P : PS → Prop} : ∀ (n : Nat) (x2 : Int32) (x3 : Int32) (x4 : Int32) (σ : PS), hO (fX1_morning_46 b n x2 x3 x4 σ) P → X g mX1_morning 5 0 0 (pV P) 46 [(0, .ref 41), (1, .ref b), (2, .int x2), (3, .int x3), (4, .int x4)] [] (HP σ) := by
  intro n
  induction n with
  | zero =>
    intro x2 x3 x4 σ h
    rw [fX1_morning_46] at h
    exact (hO_none h).elim
  | succ n ih =>
    intro x2 x3 x4 σ h
    rw [fX1_morning_46] at h
    refine X_iload 4 rfl (dk KX1_morning 27 rfl) ?_
    refine X_aload_n 0 rfl (dk KX1_morning 28 rfl) ?_
    refine Y_getR 3 fX1_48 (Nat.le_of_ble_eq_true rfl) rfl rfl (dk KX1_morning 29 rfl) ?_
    refine Y_getI fX1_79 (Nat.le_of_ble_eq_true rfl) rfl (dk KX1_morning 30 rfl) ?_
    refine X_icmp_ge 93 (dk KX1_morning 31 rfl) (by decide) (fun hc => ?_) (fun hc => ?_)
    · have h := hO_t hc h
      exact Y_vret (dk KX1_morning 52 rfl) rfl h
    · have h := hO_f hc h
      refine X_aload_n 0 rfl (dk KX1_morning 32 rfl) ?_
      refine X_iload 4 rfl (dk KX1_morning 33 rfl) ?_
      refine X_iload_n 2 rfl (dk KX1_morning 34 rfl) ?_
      refine Y_callVV wX1_84 (Nat.le_of_ble_eq_true rfl) rfl [.int x4, .int x2] [] rfl rfl (Nat.le_of_ble_eq_true rfl) (Nat.le_of_ble_eq_true rfl) (dk KX1_morning 35 rfl) (fun Pc h => okX1_wake _ _ _ Pc h) h (fun σ6 e7 h => ?_)
      try dsimp only at h
      refine X_aload_n 0 rfl (dk KX1_morning 36 rfl) ?_
      refine Y_getR 43 fX1_17 (Nat.le_of_ble_eq_true rfl) rfl rfl (dk KX1_morning 37 rfl) ?_
      refine X_iload 4 rfl (dk KX1_morning 38 rfl) ?_
      refine Y_aald (rw_ 43 x4) (Nat.le_of_ble_eq_true rfl) rfl (gr43_rf _ _) (dk KX1_morning 39 rfl) h (fun hi8 h => ?_)
      refine X_iload_n 2 rfl (dk KX1_morning 40 rfl) ?_
      refine Y_iald (gr43_lt hi8) (gr43_ob hi8) (dk KX1_morning 41 rfl) h (fun hi9 h => ?_)
      refine X_iconst (dk KX1_morning 42 rfl) (-1) (by decide) ?_
      refine X_icmp_eq 87 (dk KX1_morning 43 rfl) (by decide) (fun hc => ?_) (fun hc => ?_)
      · have h := hO_t hc h
        exact tX1_morning_87 hb ih x2 x3 x4 σ6 h
      · have h := hO_f hc h
        refine X_aload_n 0 rfl (dk KX1_morning 44 rfl) ?_
        refine X_aload_n 1 rfl (dk KX1_morning 45 rfl) ?_
        refine X_iload 4 rfl (dk KX1_morning 46 rfl) ?_
        refine X_iload_n 2 rfl (dk KX1_morning 47 rfl) ?_
        refine X_iload_n 3 rfl (dk KX1_morning 48 rfl) ?_
        refine Y_callVV wX1_88 (Nat.le_of_ble_eq_true rfl) rfl [.ref b, .int x4, .int x2, .int x3] [] rfl rfl (Nat.le_of_ble_eq_true rfl) (Nat.le_of_ble_eq_true rfl) (dk KX1_morning 49 rfl) (fun Pc h => okX1_goOn hb _ _ _ _ Pc h) h (fun σ11 e12 h => ?_)
        try dsimp only at h
        exact tX1_morning_87 hb ih x2 x3 x4 σ11 h
def fX1_morning_36 (b : Nat) (r3 : Int32 → Int32 → Int32 → PS → Option (PS)) (x2 : Int32) (x3 : Int32) (x4 : Int32) (q0 : Int32) (s1 : Int32) (s2 : Int32) (σ : PS) : Option (PS) := gd (inb s1 60) (r3 x2 x3 (x4 + 1) (sI σ (rw_ 101 q0) (s1 : Int32).toNatClampNeg s2))
set_option maxRecDepth 100000 in
set_option maxHeartbeats 4000000 in
theorem tX1_morning_36 {b : Nat} (hb : isBk b = true) {P : PS → Prop} {r3 : Int32 → Int32 → Int32 → PS → Option (PS)} (hr_3 : ∀ (x2 : Int32) (x3 : Int32) (x4 : Int32) (σ : PS), hO (r3 x2 x3 x4 σ) P → X g mX1_morning 5 0 0 (pV P) 3 [(0, .ref 41), (1, .ref b), (2, .int x2), (3, .int x3), (4, .int x4)] [] (HP σ)) (x2 : Int32) (x3 : Int32) (x4 : Int32) (q0 : Int32) (s1 : Int32) (s2 : Int32) (σ : PS) (hq0 : inb q0 5 = true) (h : hO (fX1_morning_36 b r3 x2 x3 x4 q0 s1 s2 σ) P) : X g mX1_morning 5 0 0 (pV P) 36 [(0, .ref 41), (1, .ref b), (2, .int x2), (3, .int x3), (4, .int x4)] [.int s2, .int s1, .ref (rw_ 101 q0)] (HP σ) := by
  unfold fX1_morning_36 at h
  refine Y_iast (gr101_lt hq0) (gr101_ob hq0) (dk KX1_morning 22 rfl) h (fun hi4 h => ?_)
  refine X_iinc 4 1 [(4, .int (x4 + 1)), (0, .ref 41), (1, .ref b), (2, .int x2), (3, .int x3)] (dk KX1_morning 23 rfl) rfl (by decide) (by decide) rfl ?_
  refine X_goto 3 (dk KX1_morning 24 rfl) (by decide) ?_
  refine X_sub [(0, .ref 41), (1, .ref b), (2, .int x2), (3, .int x3), (4, .int (x4 + 1))] [1, 2, 3, 4, 0] rfl ?_
  exact hr_3 x2 x3 (x4 + 1) (sI σ (rw_ 101 q0) (s1 : Int32).toNatClampNeg s2) h
def fX1_morning_3 (b : Nat) : Nat → Int32 → Int32 → Int32 → PS → Option (PS)
  | 0, _, _, _, _ => none
  | n + 1, x2, x3, x4, σ => (if 5 ≤ x4 then fX1_morning_46 b FU x2 x3 0 σ else gd (inb x4 5) ((if x2 = 0 then fX1_morning_36 b (fX1_morning_3 b n) x2 x3 x4 x4 x2 0 σ else gd (inb x4 5) (gd (inb (x2 - 1) 60) (fX1_morning_36 b (fX1_morning_3 b n) x2 x3 x4 x4 x2 (gi σ (rw_ 101 x4) ((x2 - 1) : Int32).toNatClampNeg) σ)))))
set_option maxRecDepth 100000 in
set_option maxHeartbeats 4000000 in
theorem tX1_morning_3 {b : Nat} (hb : isBk b = true) {P : PS → Prop} : ∀ (n : Nat) (x2 : Int32) (x3 : Int32) (x4 : Int32) (σ : PS), hO (fX1_morning_3 b n x2 x3 x4 σ) P → X g mX1_morning 5 0 0 (pV P) 3 [(0, .ref 41), (1, .ref b), (2, .int x2), (3, .int x3), (4, .int x4)] [] (HP σ) := by
  intro n
  induction n with
  | zero =>
    intro x2 x3 x4 σ h
    rw [fX1_morning_3] at h
    exact (hO_none h).elim
  | succ n ih =>
    intro x2 x3 x4 σ h
    rw [fX1_morning_3] at h
    refine X_iload 4 rfl (dk KX1_morning 2 rfl) ?_
    refine X_iconst (dk KX1_morning 3 rfl) 5 (by decide) ?_
    refine X_icmp_ge 43 (dk KX1_morning 4 rfl) (by decide) (fun hc => ?_) (fun hc => ?_)
    · have h := hO_t hc h
      refine X_iconst (dk KX1_morning 25 rfl) 0 (by decide) ?_
      refine X_istore [(4, .int 0), (0, .ref 41), (1, .ref b), (2, .int x2), (3, .int x3)] (dk KX1_morning 26 rfl) (by decide) rfl ?_
      refine X_sub [(0, .ref 41), (1, .ref b), (2, .int x2), (3, .int x3), (4, .int 0)] [1, 2, 3, 4, 0] rfl ?_
      exact tX1_morning_46 hb FU x2 x3 0 σ h
    · have h := hO_f hc h
      refine X_aload_n 0 rfl (dk KX1_morning 5 rfl) ?_
      refine Y_getR 101 fX1_41 (Nat.le_of_ble_eq_true rfl) rfl rfl (dk KX1_morning 6 rfl) ?_
      refine X_iload 4 rfl (dk KX1_morning 7 rfl) ?_
      refine Y_aald (rw_ 101 x4) (Nat.le_of_ble_eq_true rfl) rfl (gr101_rf _ _) (dk KX1_morning 8 rfl) h (fun hi1 h => ?_)
      refine X_iload_n 2 rfl (dk KX1_morning 9 rfl) ?_
      refine X_iload_n 2 rfl (dk KX1_morning 10 rfl) ?_
      refine X_if_ne 25 (dk KX1_morning 11 rfl) (by decide) (fun hc => ?_) (fun hc => ?_)
      · have h := hO_f hc h
        refine X_aload_n 0 rfl (dk KX1_morning 14 rfl) ?_
        refine Y_getR 101 fX1_41 (Nat.le_of_ble_eq_true rfl) rfl rfl (dk KX1_morning 15 rfl) ?_
        refine X_iload 4 rfl (dk KX1_morning 16 rfl) ?_
        refine Y_aald (rw_ 101 x4) (Nat.le_of_ble_eq_true rfl) rfl (gr101_rf _ _) (dk KX1_morning 17 rfl) h (fun hi2 h => ?_)
        refine X_iload_n 2 rfl (dk KX1_morning 18 rfl) ?_
        refine X_iconst (dk KX1_morning 19 rfl) 1 (by decide) ?_
        refine X_isub (dk KX1_morning 20 rfl) ?_
        refine Y_iald (gr101_lt hi2) (gr101_ob hi2) (dk KX1_morning 21 rfl) h (fun hi3 h => ?_)
        exact tX1_morning_36 hb ih x2 x3 x4 x4 x2 (gi σ (rw_ 101 x4) ((x2 - 1) : Int32).toNatClampNeg) σ hi1 h
      · have h := hO_t hc h
        refine X_iconst (dk KX1_morning 12 rfl) 0 (by decide) ?_
        refine X_goto 36 (dk KX1_morning 13 rfl) (by decide) ?_
        exact tX1_morning_36 hb ih x2 x3 x4 x4 x2 0 σ hi1 h
def fX1_morning (b : Nat) (a2 : Int32) (a3 : Int32) (σ : PS) : Option (PS) := fX1_morning_3 b FU a2 a3 0 σ
set_option maxRecDepth 100000 in
set_option maxHeartbeats 4000000 in
theorem okX1_morning {b : Nat} (hb : isBk b = true) (a2 : Int32) (a3 : Int32) (σ : PS) (P : PS → Prop) (h : hO (fX1_morning b a2 a3 σ) P) : CON g mX1_morning 5 0 0 [.ref 41, .ref b, .int a2, .int a3] (HP σ) (pV P) := by
  refine CON.of (by decide) (by simp [lg_sl, Value.category]) ?_
  show X g _ _ _ _ _ 0 [(0, .ref 41), (1, .ref b), (2, .int a2), (3, .int a3)] [] _
  unfold fX1_morning at h
  refine X_iconst (dk KX1_morning 0 rfl) 0 (by decide) ?_
  refine X_istore [(4, .int 0), (0, .ref 41), (1, .ref b), (2, .int a2), (3, .int a3)] (dk KX1_morning 1 rfl) (by decide) rfl ?_
  refine X_sub [(0, .ref 41), (1, .ref b), (2, .int a2), (3, .int a3), (4, .int 0)] [1, 2, 3, 4, 0] rfl ?_
  exact tX1_morning_3 hb FU a2 a3 0 σ h

def fX1_walk_26 (b : Nat) : Nat → Int32 → Int32 → PS → Option (PS)
  | 0, _, _, _ => none
  | n + 1, x2, x4, σ => (if 60 ≤ x4 then some σ else (fX1_morning b x4 x2 σ).bind (fun σ5 => (fX1_evening b x4 σ5).bind (fun σ8 => fX1_walk_26 b n x2 (x4 + 1) σ8)))
set_option maxRecDepth 100000 in
set_option maxHeartbeats 4000000 in
theorem tX1_walk_26 {b : Nat} (hb : isBk b = true) {P : PS → Prop} : ∀ (n : Nat) (x2 : Int32) (x4 : Int32) (σ : PS), hO (fX1_walk_26 b n x2 x4 σ) P → X g mX1_walk 15 0 0 (pV P) 26 [(0, .ref 41), (1, .ref b), (2, .int x2), (4, .int x4)] [] (HP σ) := by
  intro n
  induction n with
  | zero =>
    intro x2 x4 σ h
    rw [fX1_walk_26] at h
    exact (hO_none h).elim
  | succ n ih =>
    intro x2 x4 σ h
    rw [fX1_walk_26] at h
    refine X_iload 3 rfl (dk KX1_walk 15 rfl) ?_
    refine X_bipush (dk KX1_walk 16 rfl) 60 (by decide) ?_
    refine X_icmp_ge 54 (dk KX1_walk 17 rfl) (by decide) (fun hc => ?_) (fun hc => ?_)
    · have h := hO_t hc h
      exact Y_vret (dk KX1_walk 29 rfl) rfl h
    · have h := hO_f hc h
      refine X_aload_n 0 rfl (dk KX1_walk 18 rfl) ?_
      refine X_aload_n 1 rfl (dk KX1_walk 19 rfl) ?_
      refine X_iload 3 rfl (dk KX1_walk 20 rfl) ?_
      refine X_iload_n 2 rfl (dk KX1_walk 21 rfl) ?_
      refine Y_callVV wX1_71 (Nat.le_of_ble_eq_true rfl) rfl [.ref b, .int x4, .int x2] [] rfl rfl (Nat.le_of_ble_eq_true rfl) (Nat.le_of_ble_eq_true rfl) (dk KX1_walk 22 rfl) (fun Pc h => okX1_morning hb _ _ _ Pc h) h (fun σ5 e6 h => ?_)
      try dsimp only at h
      refine X_aload_n 0 rfl (dk KX1_walk 23 rfl) ?_
      refine X_aload_n 1 rfl (dk KX1_walk 24 rfl) ?_
      refine X_iload 3 rfl (dk KX1_walk 25 rfl) ?_
      refine Y_callVV wX1_75 (Nat.le_of_ble_eq_true rfl) rfl [.ref b, .int x4] [] rfl rfl (Nat.le_of_ble_eq_true rfl) (Nat.le_of_ble_eq_true rfl) (dk KX1_walk 26 rfl) (fun Pc h => okX1_evening hb _ _ Pc h) h (fun σ8 e9 h => ?_)
      try dsimp only at h
      refine X_iinc 3 1 [(4, .int (x4 + 1)), (0, .ref 41), (1, .ref b), (2, .int x2)] (dk KX1_walk 27 rfl) rfl (by decide) (by decide) rfl ?_
      refine X_goto 26 (dk KX1_walk 28 rfl) (by decide) ?_
      refine X_sub [(0, .ref 41), (1, .ref b), (2, .int x2), (4, .int (x4 + 1))] [1, 2, 3, 0] rfl ?_
      exact ih x2 (x4 + 1) σ8 h
def fX1_walk (b : Nat) (a2 : Int32) (σ : PS) : Option (PS) := (fX0_shutsAmong a2 σ).bind (fun qy1 => (fun (y1 : Int32) (σ2 : PS) => (if y1 = (gi σ2 41 13) then some σ2 else fX1_walk_26 b FU a2 0 (sI σ2 41 13 y1))) qy1.1 qy1.2)
set_option maxRecDepth 100000 in
set_option maxHeartbeats 4000000 in
theorem okX1_walk {b : Nat} (hb : isBk b = true) (a2 : Int32) (σ : PS) (P : PS → Prop) (h : hO (fX1_walk b a2 σ) P) : CON g mX1_walk 15 0 0 [.ref 41, .ref b, .int a2] (HP σ) (pV P) := by
  refine CON.of (by decide) (by simp [lg_sl, Value.category]) ?_
  show X g _ _ _ _ _ 0 [(0, .ref 41), (1, .ref b), (2, .int a2)] [] _
  unfold fX1_walk at h
  refine X_aload_n 0 rfl (dk KX1_walk 0 rfl) ?_
  refine Y_getR 25 fX1_52 (Nat.le_of_ble_eq_true rfl) rfl rfl (dk KX1_walk 1 rfl) ?_
  refine X_iload_n 2 rfl (dk KX1_walk 2 rfl) ?_
  refine Y_callVI wX1_65 (Nat.le_of_ble_eq_true rfl) rfl [.int a2] [] rfl rfl (Nat.le_of_ble_eq_true rfl) (Nat.le_of_ble_eq_true rfl) (dk KX1_walk 3 rfl) (fun Pc h => okX0_shutsAmong _ _ Pc h) h (fun y1 σ2 e3 h => ?_)
  try dsimp only at h
  refine X_istore_n [(3, .int y1), (0, .ref 41), (1, .ref b), (2, .int a2)] (dk KX1_walk 4 rfl) (by decide) rfl ?_
  refine X_iload_n 0 rfl (dk KX1_walk 5 rfl) ?_
  refine X_aload_n 1 rfl (dk KX1_walk 6 rfl) ?_
  refine Y_getI fX1_44 (Nat.le_of_ble_eq_true rfl) rfl (dk KX1_walk 7 rfl) ?_
  refine X_icmp_ne 18 (dk KX1_walk 8 rfl) (by decide) (fun hc => ?_) (fun hc => ?_)
  · have h := hO_f hc h
    refine X_aload_n 1 rfl (dk KX1_walk 10 rfl) ?_
    refine X_iload_n 0 rfl (dk KX1_walk 11 rfl) ?_
    refine Y_putI fX1_44 rfl (Nat.le_of_ble_eq_true rfl) rfl (dk KX1_walk 12 rfl) ?_
    refine X_iconst (dk KX1_walk 13 rfl) 0 (by decide) ?_
    refine X_istore [(4, .int 0), (3, .int y1), (0, .ref 41), (1, .ref b), (2, .int a2)] (dk KX1_walk 14 rfl) (by decide) rfl ?_
    refine X_sub [(0, .ref 41), (1, .ref b), (2, .int a2), (4, .int 0)] [2, 3, 4, 0] rfl ?_
    exact tX1_walk_26 hb FU a2 0 (sI σ2 41 13 y1) h
  · have h := hO_t hc h
    exact Y_vret (dk KX1_walk 9 rfl) rfl h

def fX1_beastsInStalls_56 (r5 : Int32 → Int32 → Int32 → Int32 → PS → Option (Int32 × PS)) (x1 : Int32) (x2 : Int32) (x3 : Int32) (x4 : Int32) (σ : PS) : Option (Int32 × PS) := r5 x1 x2 x3 (x4 + 1) σ
set_option maxRecDepth 100000 in
set_option maxHeartbeats 4000000 in
theorem tX1_beastsInStalls_56 {P : Int32 × PS → Prop} {r5 : Int32 → Int32 → Int32 → Int32 → PS → Option (Int32 × PS)} (hr_5 : ∀ (x1 : Int32) (x2 : Int32) (x3 : Int32) (x4 : Int32) (σ : PS), hO (r5 x1 x2 x3 x4 σ) P → X g mX1_beastsInStalls 0 0 0 (pI P) 5 [(0, .ref 41), (1, .int x1), (2, .int x2), (3, .int x3), (4, .int x4)] [] (HP σ)) (x1 : Int32) (x2 : Int32) (x3 : Int32) (x4 : Int32) (σ : PS) (h : hO (fX1_beastsInStalls_56 r5 x1 x2 x3 x4 σ) P) : X g mX1_beastsInStalls 0 0 0 (pI P) 56 [(0, .ref 41), (1, .int x1), (2, .int x2), (3, .int x3), (4, .int x4)] [] (HP σ) := by
  unfold fX1_beastsInStalls_56 at h
  refine X_iinc 4 1 [(4, .int (x4 + 1)), (0, .ref 41), (1, .int x1), (2, .int x2), (3, .int x3)] (dk KX1_beastsInStalls 33 rfl) rfl (by decide) (by decide) rfl ?_
  refine X_goto 5 (dk KX1_beastsInStalls 34 rfl) (by decide) ?_
  refine X_sub [(0, .ref 41), (1, .int x1), (2, .int x2), (3, .int x3), (4, .int (x4 + 1))] [1, 2, 3, 4, 0] rfl ?_
  exact hr_5 x1 x2 x3 (x4 + 1) σ h
def fX1_beastsInStalls_5 : Nat → Int32 → Int32 → Int32 → Int32 → PS → Option (Int32 × PS)
  | 0, _, _, _, _, _ => none
  | n + 1, x1, x2, x3, x4, σ => (if (gi σ 3 6) ≤ x4 then some (x3, σ) else gd (inb x4 6) (gd (inb x2 60) ((if (gi σ (rw_ 43 x4) (x2 : Int32).toNatClampNeg) = x1 then gd (inb x4 6) (gd (inb x2 60) ((if (gi σ (rw_ 50 x4) (x2 : Int32).toNatClampNeg) = (-1) then fX1_beastsInStalls_56 (fX1_beastsInStalls_5 n) x1 x2 x3 x4 σ else gd (inb x4 6) (fX1_beastsInStalls_56 (fX1_beastsInStalls_5 n) x1 x2 (x3 + (gi σ 18 (x4 : Int32).toNatClampNeg)) x4 σ)))) else fX1_beastsInStalls_56 (fX1_beastsInStalls_5 n) x1 x2 x3 x4 σ))))
set_option maxRecDepth 100000 in
set_option maxHeartbeats 4000000 in
theorem tX1_beastsInStalls_5 {P : Int32 × PS → Prop} : ∀ (n : Nat) (x1 : Int32) (x2 : Int32) (x3 : Int32) (x4 : Int32) (σ : PS), hO (fX1_beastsInStalls_5 n x1 x2 x3 x4 σ) P → X g mX1_beastsInStalls 0 0 0 (pI P) 5 [(0, .ref 41), (1, .int x1), (2, .int x2), (3, .int x3), (4, .int x4)] [] (HP σ) := by
  intro n
  induction n with
  | zero =>
    intro x1 x2 x3 x4 σ h
    rw [fX1_beastsInStalls_5] at h
    exact (hO_none h).elim
  | succ n ih =>
    intro x1 x2 x3 x4 σ h
    rw [fX1_beastsInStalls_5] at h
    refine X_iload 4 rfl (dk KX1_beastsInStalls 4 rfl) ?_
    refine X_aload_n 0 rfl (dk KX1_beastsInStalls 5 rfl) ?_
    refine Y_getR 3 fX1_48 (Nat.le_of_ble_eq_true rfl) rfl rfl (dk KX1_beastsInStalls 6 rfl) ?_
    refine Y_getI fX1_79 (Nat.le_of_ble_eq_true rfl) rfl (dk KX1_beastsInStalls 7 rfl) ?_
    refine X_icmp_ge 62 (dk KX1_beastsInStalls 8 rfl) (by decide) (fun hc => ?_) (fun hc => ?_)
    · have h := hO_t hc h
      refine X_iload_n 3 rfl (dk KX1_beastsInStalls 35 rfl) ?_
      exact Y_iret (dk KX1_beastsInStalls 36 rfl) rfl h
    · have h := hO_f hc h
      refine X_aload_n 0 rfl (dk KX1_beastsInStalls 9 rfl) ?_
      refine Y_getR 43 fX1_17 (Nat.le_of_ble_eq_true rfl) rfl rfl (dk KX1_beastsInStalls 10 rfl) ?_
      refine X_iload 4 rfl (dk KX1_beastsInStalls 11 rfl) ?_
      refine Y_aald (rw_ 43 x4) (Nat.le_of_ble_eq_true rfl) rfl (gr43_rf _ _) (dk KX1_beastsInStalls 12 rfl) h (fun hi1 h => ?_)
      refine X_iload_n 2 rfl (dk KX1_beastsInStalls 13 rfl) ?_
      refine Y_iald (gr43_lt hi1) (gr43_ob hi1) (dk KX1_beastsInStalls 14 rfl) h (fun hi2 h => ?_)
      refine X_iload_n 1 rfl (dk KX1_beastsInStalls 15 rfl) ?_
      refine X_icmp_ne 56 (dk KX1_beastsInStalls 16 rfl) (by decide) (fun hc => ?_) (fun hc => ?_)
      · have h := hO_f hc h
        exact tX1_beastsInStalls_56 ih x1 x2 x3 x4 σ h
      · have h := hO_t hc h
        refine X_aload_n 0 rfl (dk KX1_beastsInStalls 17 rfl) ?_
        refine Y_getR 50 fX1_20 (Nat.le_of_ble_eq_true rfl) rfl rfl (dk KX1_beastsInStalls 18 rfl) ?_
        refine X_iload 4 rfl (dk KX1_beastsInStalls 19 rfl) ?_
        refine Y_aald (rw_ 50 x4) (Nat.le_of_ble_eq_true rfl) rfl (gr50_rf _ _) (dk KX1_beastsInStalls 20 rfl) h (fun hi3 h => ?_)
        refine X_iload_n 2 rfl (dk KX1_beastsInStalls 21 rfl) ?_
        refine Y_iald (gr50_lt hi3) (gr50_ob hi3) (dk KX1_beastsInStalls 22 rfl) h (fun hi4 h => ?_)
        refine X_iconst (dk KX1_beastsInStalls 23 rfl) (-1) (by decide) ?_
        refine X_icmp_eq 56 (dk KX1_beastsInStalls 24 rfl) (by decide) (fun hc => ?_) (fun hc => ?_)
        · have h := hO_t hc h
          exact tX1_beastsInStalls_56 ih x1 x2 x3 x4 σ h
        · have h := hO_f hc h
          refine X_iload_n 3 rfl (dk KX1_beastsInStalls 25 rfl) ?_
          refine X_aload_n 0 rfl (dk KX1_beastsInStalls 26 rfl) ?_
          refine Y_getR 3 fX1_48 (Nat.le_of_ble_eq_true rfl) rfl rfl (dk KX1_beastsInStalls 27 rfl) ?_
          refine Y_getR 18 fX1_132 (Nat.le_of_ble_eq_true rfl) rfl rfl (dk KX1_beastsInStalls 28 rfl) ?_
          refine X_iload 4 rfl (dk KX1_beastsInStalls 29 rfl) ?_
          refine Y_iald (Nat.le_of_ble_eq_true rfl) rfl (dk KX1_beastsInStalls 30 rfl) h (fun hi5 h => ?_)
          refine X_iadd (dk KX1_beastsInStalls 31 rfl) ?_
          refine X_istore_n [(3, .int (x3 + (gi σ 18 (x4 : Int32).toNatClampNeg))), (0, .ref 41), (1, .int x1), (2, .int x2), (4, .int x4)] (dk KX1_beastsInStalls 32 rfl) (by decide) rfl ?_
          refine X_sub [(0, .ref 41), (1, .int x1), (2, .int x2), (3, .int (x3 + (gi σ 18 (x4 : Int32).toNatClampNeg))), (4, .int x4)] [1, 2, 3, 0, 4] rfl ?_
          exact tX1_beastsInStalls_56 ih x1 x2 (x3 + (gi σ 18 (x4 : Int32).toNatClampNeg)) x4 σ h
def fX1_beastsInStalls (a1 : Int32) (a2 : Int32) (σ : PS) : Option (Int32 × PS) := fX1_beastsInStalls_5 FU a1 a2 0 0 σ
set_option maxRecDepth 100000 in
set_option maxHeartbeats 4000000 in
theorem okX1_beastsInStalls (a1 : Int32) (a2 : Int32) (σ : PS) (P : Int32 × PS → Prop) (h : hO (fX1_beastsInStalls a1 a2 σ) P) : CON g mX1_beastsInStalls 0 0 0 [.ref 41, .int a1, .int a2] (HP σ) (pI P) := by
  refine CON.of (by decide) (by simp [lg_sl, Value.category]) ?_
  show X g _ _ _ _ _ 0 [(0, .ref 41), (1, .int a1), (2, .int a2)] [] _
  unfold fX1_beastsInStalls at h
  refine X_iconst (dk KX1_beastsInStalls 0 rfl) 0 (by decide) ?_
  refine X_istore_n [(3, .int 0), (0, .ref 41), (1, .int a1), (2, .int a2)] (dk KX1_beastsInStalls 1 rfl) (by decide) rfl ?_
  refine X_iconst (dk KX1_beastsInStalls 2 rfl) 0 (by decide) ?_
  refine X_istore [(4, .int 0), (3, .int 0), (0, .ref 41), (1, .int a1), (2, .int a2)] (dk KX1_beastsInStalls 3 rfl) (by decide) rfl ?_
  refine X_sub [(0, .ref 41), (1, .int a1), (2, .int a2), (3, .int 0), (4, .int 0)] [2, 3, 4, 1, 0] rfl ?_
  exact tX1_beastsInStalls_5 FU a1 a2 0 0 σ h

def fX1_guests_56 (r6 : Int32 → Int32 → Int32 → Int32 → Int32 → PS → Option (Int32 × PS)) (x1 : Int32) (x2 : Int32) (x3 : Int32) (x4 : Int32) (x5 : Int32) (σ : PS) : Option (Int32 × PS) := r6 x1 x2 x3 x4 (x5 + 1) σ
set_option maxRecDepth 100000 in
set_option maxHeartbeats 4000000 in
theorem tX1_guests_56 {P : Int32 × PS → Prop} {r6 : Int32 → Int32 → Int32 → Int32 → Int32 → PS → Option (Int32 × PS)} (hr_6 : ∀ (x1 : Int32) (x2 : Int32) (x3 : Int32) (x4 : Int32) (x5 : Int32) (σ : PS), hO (r6 x1 x2 x3 x4 x5 σ) P → X g mX1_guests 0 0 0 (pI P) 6 [(0, .ref 41), (1, .int x1), (2, .int x2), (3, .int x3), (4, .int x4), (5, .int x5)] [] (HP σ)) (x1 : Int32) (x2 : Int32) (x3 : Int32) (x4 : Int32) (x5 : Int32) (σ : PS) (h : hO (fX1_guests_56 r6 x1 x2 x3 x4 x5 σ) P) : X g mX1_guests 0 0 0 (pI P) 56 [(0, .ref 41), (1, .int x1), (2, .int x2), (3, .int x3), (4, .int x4), (5, .int x5)] [] (HP σ) := by
  unfold fX1_guests_56 at h
  refine X_iinc 5 1 [(5, .int (x5 + 1)), (0, .ref 41), (1, .int x1), (2, .int x2), (3, .int x3), (4, .int x4)] (dk KX1_guests 31 rfl) rfl (by decide) (by decide) rfl ?_
  refine X_goto 6 (dk KX1_guests 32 rfl) (by decide) ?_
  refine X_sub [(0, .ref 41), (1, .int x1), (2, .int x2), (3, .int x3), (4, .int x4), (5, .int (x5 + 1))] [1, 2, 3, 4, 5, 0] rfl ?_
  exact hr_6 x1 x2 x3 x4 (x5 + 1) σ h
def fX1_guests_49 (r6 : Int32 → Int32 → Int32 → Int32 → Int32 → PS → Option (Int32 × PS)) (x1 : Int32) (x2 : Int32) (x3 : Int32) (x4 : Int32) (x5 : Int32) (s0 : Int32) (σ : PS) : Option (Int32 × PS) := (if s0 = x3 then fX1_guests_56 r6 x1 x2 x3 (x4 + 1) x5 σ else fX1_guests_56 r6 x1 x2 x3 x4 x5 σ)
set_option maxRecDepth 100000 in
set_option maxHeartbeats 4000000 in
theorem tX1_guests_49 {P : Int32 × PS → Prop} {r6 : Int32 → Int32 → Int32 → Int32 → Int32 → PS → Option (Int32 × PS)} (hr_6 : ∀ (x1 : Int32) (x2 : Int32) (x3 : Int32) (x4 : Int32) (x5 : Int32) (σ : PS), hO (r6 x1 x2 x3 x4 x5 σ) P → X g mX1_guests 0 0 0 (pI P) 6 [(0, .ref 41), (1, .int x1), (2, .int x2), (3, .int x3), (4, .int x4), (5, .int x5)] [] (HP σ)) (x1 : Int32) (x2 : Int32) (x3 : Int32) (x4 : Int32) (x5 : Int32) (s0 : Int32) (σ : PS) (h : hO (fX1_guests_49 r6 x1 x2 x3 x4 x5 s0 σ) P) : X g mX1_guests 0 0 0 (pI P) 49 [(0, .ref 41), (1, .int x1), (2, .int x2), (3, .int x3), (4, .int x4), (5, .int x5)] [.int s0] (HP σ) := by
  unfold fX1_guests_49 at h
  refine X_iload_n 3 rfl (dk KX1_guests 28 rfl) ?_
  refine X_icmp_ne 56 (dk KX1_guests 29 rfl) (by decide) (fun hc => ?_) (fun hc => ?_)
  · have h := hO_f hc h
    exact tX1_guests_56 hr_6 x1 x2 x3 x4 x5 σ h
  · have h := hO_t hc h
    refine X_iinc 4 1 [(4, .int (x4 + 1)), (0, .ref 41), (1, .int x1), (2, .int x2), (3, .int x3), (5, .int x5)] (dk KX1_guests 30 rfl) rfl (by decide) (by decide) rfl ?_
    refine X_sub [(0, .ref 41), (1, .int x1), (2, .int x2), (3, .int x3), (4, .int (x4 + 1)), (5, .int x5)] [1, 2, 3, 4, 0, 5] rfl ?_
    exact tX1_guests_56 hr_6 x1 x2 x3 (x4 + 1) x5 σ h
def fX1_guests_6 : Nat → Int32 → Int32 → Int32 → Int32 → Int32 → PS → Option (Int32 × PS)
  | 0, _, _, _, _, _, _ => none
  | n + 1, x1, x2, x3, x4, x5, σ => (if (gi σ 3 6) ≤ x5 then some (x4, σ) else gd (inb x5 6) (gd (inb x2 60) ((if (gi σ (rw_ 43 x5) (x2 : Int32).toNatClampNeg) = x1 then gd (inb x5 6) (gd (inb x2 60) ((if (gi σ (rw_ 50 x5) (x2 : Int32).toNatClampNeg) = (-1) then fX1_guests_49 (fX1_guests_6 n) x1 x2 x3 x4 x5 0 σ else fX1_guests_49 (fX1_guests_6 n) x1 x2 x3 x4 x5 1 σ))) else fX1_guests_56 (fX1_guests_6 n) x1 x2 x3 x4 x5 σ))))
set_option maxRecDepth 100000 in
set_option maxHeartbeats 4000000 in
theorem tX1_guests_6 {P : Int32 × PS → Prop} : ∀ (n : Nat) (x1 : Int32) (x2 : Int32) (x3 : Int32) (x4 : Int32) (x5 : Int32) (σ : PS), hO (fX1_guests_6 n x1 x2 x3 x4 x5 σ) P → X g mX1_guests 0 0 0 (pI P) 6 [(0, .ref 41), (1, .int x1), (2, .int x2), (3, .int x3), (4, .int x4), (5, .int x5)] [] (HP σ) := by
  intro n
  induction n with
  | zero =>
    intro x1 x2 x3 x4 x5 σ h
    rw [fX1_guests_6] at h
    exact (hO_none h).elim
  | succ n ih =>
    intro x1 x2 x3 x4 x5 σ h
    rw [fX1_guests_6] at h
    refine X_iload 5 rfl (dk KX1_guests 4 rfl) ?_
    refine X_aload_n 0 rfl (dk KX1_guests 5 rfl) ?_
    refine Y_getR 3 fX1_48 (Nat.le_of_ble_eq_true rfl) rfl rfl (dk KX1_guests 6 rfl) ?_
    refine Y_getI fX1_79 (Nat.le_of_ble_eq_true rfl) rfl (dk KX1_guests 7 rfl) ?_
    refine X_icmp_ge 62 (dk KX1_guests 8 rfl) (by decide) (fun hc => ?_) (fun hc => ?_)
    · have h := hO_t hc h
      refine X_iload 4 rfl (dk KX1_guests 33 rfl) ?_
      exact Y_iret (dk KX1_guests 34 rfl) rfl h
    · have h := hO_f hc h
      refine X_aload_n 0 rfl (dk KX1_guests 9 rfl) ?_
      refine Y_getR 43 fX1_17 (Nat.le_of_ble_eq_true rfl) rfl rfl (dk KX1_guests 10 rfl) ?_
      refine X_iload 5 rfl (dk KX1_guests 11 rfl) ?_
      refine Y_aald (rw_ 43 x5) (Nat.le_of_ble_eq_true rfl) rfl (gr43_rf _ _) (dk KX1_guests 12 rfl) h (fun hi1 h => ?_)
      refine X_iload_n 2 rfl (dk KX1_guests 13 rfl) ?_
      refine Y_iald (gr43_lt hi1) (gr43_ob hi1) (dk KX1_guests 14 rfl) h (fun hi2 h => ?_)
      refine X_iload_n 1 rfl (dk KX1_guests 15 rfl) ?_
      refine X_icmp_ne 56 (dk KX1_guests 16 rfl) (by decide) (fun hc => ?_) (fun hc => ?_)
      · have h := hO_f hc h
        exact tX1_guests_56 ih x1 x2 x3 x4 x5 σ h
      · have h := hO_t hc h
        refine X_aload_n 0 rfl (dk KX1_guests 17 rfl) ?_
        refine Y_getR 50 fX1_20 (Nat.le_of_ble_eq_true rfl) rfl rfl (dk KX1_guests 18 rfl) ?_
        refine X_iload 5 rfl (dk KX1_guests 19 rfl) ?_
        refine Y_aald (rw_ 50 x5) (Nat.le_of_ble_eq_true rfl) rfl (gr50_rf _ _) (dk KX1_guests 20 rfl) h (fun hi3 h => ?_)
        refine X_iload_n 2 rfl (dk KX1_guests 21 rfl) ?_
        refine Y_iald (gr50_lt hi3) (gr50_ob hi3) (dk KX1_guests 22 rfl) h (fun hi4 h => ?_)
        refine X_iconst (dk KX1_guests 23 rfl) (-1) (by decide) ?_
        refine X_icmp_eq 48 (dk KX1_guests 24 rfl) (by decide) (fun hc => ?_) (fun hc => ?_)
        · have h := hO_t hc h
          refine X_iconst (dk KX1_guests 27 rfl) 0 (by decide) ?_
          exact tX1_guests_49 ih x1 x2 x3 x4 x5 0 σ h
        · have h := hO_f hc h
          refine X_iconst (dk KX1_guests 25 rfl) 1 (by decide) ?_
          refine X_goto 49 (dk KX1_guests 26 rfl) (by decide) ?_
          exact tX1_guests_49 ih x1 x2 x3 x4 x5 1 σ h
def fX1_guests (a1 : Int32) (a2 : Int32) (a3 : Int32) (σ : PS) : Option (Int32 × PS) := fX1_guests_6 FU a1 a2 a3 0 0 σ
set_option maxRecDepth 100000 in
set_option maxHeartbeats 4000000 in
theorem okX1_guests (a1 : Int32) (a2 : Int32) (a3 : Int32) (σ : PS) (P : Int32 × PS → Prop) (h : hO (fX1_guests a1 a2 a3 σ) P) : CON g mX1_guests 0 0 0 [.ref 41, .int a1, .int a2, .int a3] (HP σ) (pI P) := by
  refine CON.of (by decide) (by simp [lg_sl, Value.category]) ?_
  show X g _ _ _ _ _ 0 [(0, .ref 41), (1, .int a1), (2, .int a2), (3, .int a3)] [] _
  unfold fX1_guests at h
  refine X_iconst (dk KX1_guests 0 rfl) 0 (by decide) ?_
  refine X_istore [(4, .int 0), (0, .ref 41), (1, .int a1), (2, .int a2), (3, .int a3)] (dk KX1_guests 1 rfl) (by decide) rfl ?_
  refine X_iconst (dk KX1_guests 2 rfl) 0 (by decide) ?_
  refine X_istore [(5, .int 0), (4, .int 0), (0, .ref 41), (1, .int a1), (2, .int a2), (3, .int a3)] (dk KX1_guests 3 rfl) (by decide) rfl ?_
  refine X_sub [(0, .ref 41), (1, .int a1), (2, .int a2), (3, .int a3), (4, .int 0), (5, .int 0)] [2, 3, 4, 5, 1, 0] rfl ?_
  exact tX1_guests_6 FU a1 a2 a3 0 0 σ h

def fX1_guardsInRoom_59 (r6 : Int32 → Int32 → Int32 → Int32 → Int32 → PS → Option (Int32 × PS)) (x1 : Int32) (x2 : Int32) (x3 : Int32) (x4 : Int32) (x5 : Int32) (σ : PS) : Option (Int32 × PS) := r6 x1 x2 x3 x4 (x5 + 1) σ
set_option maxRecDepth 100000 in
set_option maxHeartbeats 4000000 in
theorem tX1_guardsInRoom_59 {P : Int32 × PS → Prop} {r6 : Int32 → Int32 → Int32 → Int32 → Int32 → PS → Option (Int32 × PS)} (hr_6 : ∀ (x1 : Int32) (x2 : Int32) (x3 : Int32) (x4 : Int32) (x5 : Int32) (σ : PS), hO (r6 x1 x2 x3 x4 x5 σ) P → X g mX1_guardsInRoom 0 0 0 (pI P) 6 [(0, .ref 41), (1, .int x1), (2, .int x2), (3, .int x3), (4, .int x4), (5, .int x5)] [] (HP σ)) (x1 : Int32) (x2 : Int32) (x3 : Int32) (x4 : Int32) (x5 : Int32) (σ : PS) (h : hO (fX1_guardsInRoom_59 r6 x1 x2 x3 x4 x5 σ) P) : X g mX1_guardsInRoom 0 0 0 (pI P) 59 [(0, .ref 41), (1, .int x1), (2, .int x2), (3, .int x3), (4, .int x4), (5, .int x5)] [] (HP σ) := by
  unfold fX1_guardsInRoom_59 at h
  refine X_iinc 5 1 [(5, .int (x5 + 1)), (0, .ref 41), (1, .int x1), (2, .int x2), (3, .int x3), (4, .int x4)] (dk KX1_guardsInRoom 33 rfl) rfl (by decide) (by decide) rfl ?_
  refine X_goto 6 (dk KX1_guardsInRoom 34 rfl) (by decide) ?_
  refine X_sub [(0, .ref 41), (1, .int x1), (2, .int x2), (3, .int x3), (4, .int x4), (5, .int (x5 + 1))] [1, 2, 3, 4, 5, 0] rfl ?_
  exact hr_6 x1 x2 x3 x4 (x5 + 1) σ h
def fX1_guardsInRoom_6 : Nat → Int32 → Int32 → Int32 → Int32 → Int32 → PS → Option (Int32 × PS)
  | 0, _, _, _, _, _, _ => none
  | n + 1, x1, x2, x3, x4, x5, σ => (if (gi σ 3 6) ≤ x5 then some (x4, σ) else gd (inb x5 6) (gd (inb x3 60) ((if (gi σ (rw_ 43 x5) (x3 : Int32).toNatClampNeg) = x1 then gd (inb x5 6) (gd (inb x3 60) ((if (gi σ (rw_ 50 x5) (x3 : Int32).toNatClampNeg) = x2 then gd (inb x5 6) (fX1_guardsInRoom_59 (fX1_guardsInRoom_6 n) x1 x2 x3 (x4 + (gi σ 19 (x5 : Int32).toNatClampNeg)) x5 σ) else fX1_guardsInRoom_59 (fX1_guardsInRoom_6 n) x1 x2 x3 x4 x5 σ))) else fX1_guardsInRoom_59 (fX1_guardsInRoom_6 n) x1 x2 x3 x4 x5 σ))))
set_option maxRecDepth 100000 in
set_option maxHeartbeats 4000000 in
theorem tX1_guardsInRoom_6 {P : Int32 × PS → Prop} : ∀ (n : Nat) (x1 : Int32) (x2 : Int32) (x3 : Int32) (x4 : Int32) (x5 : Int32) (σ : PS), hO (fX1_guardsInRoom_6 n x1 x2 x3 x4 x5 σ) P → X g mX1_guardsInRoom 0 0 0 (pI P) 6 [(0, .ref 41), (1, .int x1), (2, .int x2), (3, .int x3), (4, .int x4), (5, .int x5)] [] (HP σ) := by
  intro n
  induction n with
  | zero =>
    intro x1 x2 x3 x4 x5 σ h
    rw [fX1_guardsInRoom_6] at h
    exact (hO_none h).elim
  | succ n ih =>
    intro x1 x2 x3 x4 x5 σ h
    rw [fX1_guardsInRoom_6] at h
    refine X_iload 5 rfl (dk KX1_guardsInRoom 4 rfl) ?_
    refine X_aload_n 0 rfl (dk KX1_guardsInRoom 5 rfl) ?_
    refine Y_getR 3 fX1_48 (Nat.le_of_ble_eq_true rfl) rfl rfl (dk KX1_guardsInRoom 6 rfl) ?_
    refine Y_getI fX1_79 (Nat.le_of_ble_eq_true rfl) rfl (dk KX1_guardsInRoom 7 rfl) ?_
    refine X_icmp_ge 65 (dk KX1_guardsInRoom 8 rfl) (by decide) (fun hc => ?_) (fun hc => ?_)
    · have h := hO_t hc h
      refine X_iload 4 rfl (dk KX1_guardsInRoom 35 rfl) ?_
      exact Y_iret (dk KX1_guardsInRoom 36 rfl) rfl h
    · have h := hO_f hc h
      refine X_aload_n 0 rfl (dk KX1_guardsInRoom 9 rfl) ?_
      refine Y_getR 43 fX1_17 (Nat.le_of_ble_eq_true rfl) rfl rfl (dk KX1_guardsInRoom 10 rfl) ?_
      refine X_iload 5 rfl (dk KX1_guardsInRoom 11 rfl) ?_
      refine Y_aald (rw_ 43 x5) (Nat.le_of_ble_eq_true rfl) rfl (gr43_rf _ _) (dk KX1_guardsInRoom 12 rfl) h (fun hi1 h => ?_)
      refine X_iload_n 3 rfl (dk KX1_guardsInRoom 13 rfl) ?_
      refine Y_iald (gr43_lt hi1) (gr43_ob hi1) (dk KX1_guardsInRoom 14 rfl) h (fun hi2 h => ?_)
      refine X_iload_n 1 rfl (dk KX1_guardsInRoom 15 rfl) ?_
      refine X_icmp_ne 59 (dk KX1_guardsInRoom 16 rfl) (by decide) (fun hc => ?_) (fun hc => ?_)
      · have h := hO_f hc h
        exact tX1_guardsInRoom_59 ih x1 x2 x3 x4 x5 σ h
      · have h := hO_t hc h
        refine X_aload_n 0 rfl (dk KX1_guardsInRoom 17 rfl) ?_
        refine Y_getR 50 fX1_20 (Nat.le_of_ble_eq_true rfl) rfl rfl (dk KX1_guardsInRoom 18 rfl) ?_
        refine X_iload 5 rfl (dk KX1_guardsInRoom 19 rfl) ?_
        refine Y_aald (rw_ 50 x5) (Nat.le_of_ble_eq_true rfl) rfl (gr50_rf _ _) (dk KX1_guardsInRoom 20 rfl) h (fun hi3 h => ?_)
        refine X_iload_n 3 rfl (dk KX1_guardsInRoom 21 rfl) ?_
        refine Y_iald (gr50_lt hi3) (gr50_ob hi3) (dk KX1_guardsInRoom 22 rfl) h (fun hi4 h => ?_)
        refine X_iload_n 2 rfl (dk KX1_guardsInRoom 23 rfl) ?_
        refine X_icmp_ne 59 (dk KX1_guardsInRoom 24 rfl) (by decide) (fun hc => ?_) (fun hc => ?_)
        · have h := hO_f hc h
          exact tX1_guardsInRoom_59 ih x1 x2 x3 x4 x5 σ h
        · have h := hO_t hc h
          refine X_iload 4 rfl (dk KX1_guardsInRoom 25 rfl) ?_
          refine X_aload_n 0 rfl (dk KX1_guardsInRoom 26 rfl) ?_
          refine Y_getR 3 fX1_48 (Nat.le_of_ble_eq_true rfl) rfl rfl (dk KX1_guardsInRoom 27 rfl) ?_
          refine Y_getR 19 fX1_135 (Nat.le_of_ble_eq_true rfl) rfl rfl (dk KX1_guardsInRoom 28 rfl) ?_
          refine X_iload 5 rfl (dk KX1_guardsInRoom 29 rfl) ?_
          refine Y_iald (Nat.le_of_ble_eq_true rfl) rfl (dk KX1_guardsInRoom 30 rfl) h (fun hi5 h => ?_)
          refine X_iadd (dk KX1_guardsInRoom 31 rfl) ?_
          refine X_istore [(4, .int (x4 + (gi σ 19 (x5 : Int32).toNatClampNeg))), (0, .ref 41), (1, .int x1), (2, .int x2), (3, .int x3), (5, .int x5)] (dk KX1_guardsInRoom 32 rfl) (by decide) rfl ?_
          refine X_sub [(0, .ref 41), (1, .int x1), (2, .int x2), (3, .int x3), (4, .int (x4 + (gi σ 19 (x5 : Int32).toNatClampNeg))), (5, .int x5)] [1, 2, 3, 4, 0, 5] rfl ?_
          exact tX1_guardsInRoom_59 ih x1 x2 x3 (x4 + (gi σ 19 (x5 : Int32).toNatClampNeg)) x5 σ h
def fX1_guardsInRoom (a1 : Int32) (a2 : Int32) (a3 : Int32) (σ : PS) : Option (Int32 × PS) := fX1_guardsInRoom_6 FU a1 a2 a3 0 0 σ
set_option maxRecDepth 100000 in
set_option maxHeartbeats 4000000 in
theorem okX1_guardsInRoom (a1 : Int32) (a2 : Int32) (a3 : Int32) (σ : PS) (P : Int32 × PS → Prop) (h : hO (fX1_guardsInRoom a1 a2 a3 σ) P) : CON g mX1_guardsInRoom 0 0 0 [.ref 41, .int a1, .int a2, .int a3] (HP σ) (pI P) := by
  refine CON.of (by decide) (by simp [lg_sl, Value.category]) ?_
  show X g _ _ _ _ _ 0 [(0, .ref 41), (1, .int a1), (2, .int a2), (3, .int a3)] [] _
  unfold fX1_guardsInRoom at h
  refine X_iconst (dk KX1_guardsInRoom 0 rfl) 0 (by decide) ?_
  refine X_istore [(4, .int 0), (0, .ref 41), (1, .int a1), (2, .int a2), (3, .int a3)] (dk KX1_guardsInRoom 1 rfl) (by decide) rfl ?_
  refine X_iconst (dk KX1_guardsInRoom 2 rfl) 0 (by decide) ?_
  refine X_istore [(5, .int 0), (4, .int 0), (0, .ref 41), (1, .int a1), (2, .int a2), (3, .int a3)] (dk KX1_guardsInRoom 3 rfl) (by decide) rfl ?_
  refine X_sub [(0, .ref 41), (1, .int a1), (2, .int a2), (3, .int a3), (4, .int 0), (5, .int 0)] [2, 3, 4, 5, 1, 0] rfl ?_
  exact tX1_guardsInRoom_6 FU a1 a2 a3 0 0 σ h

def fX1_companions_80 (r15 : Int32 → Int32 → Int32 → Int32 → Int32 → PS → Option (Int32 × PS)) (x1 : Int32) (x2 : Int32) (x3 : Int32) (x4 : Int32) (x5 : Int32) (σ : PS) : Option (Int32 × PS) := r15 x1 x2 x3 x4 (x5 + 1) σ
set_option maxRecDepth 100000 in
set_option maxHeartbeats 4000000 in
theorem tX1_companions_80 {P : Int32 × PS → Prop} {r15 : Int32 → Int32 → Int32 → Int32 → Int32 → PS → Option (Int32 × PS)} (hr_15 : ∀ (x1 : Int32) (x2 : Int32) (x3 : Int32) (x4 : Int32) (x5 : Int32) (σ : PS), hO (r15 x1 x2 x3 x4 x5 σ) P → X g mX1_companions 0 0 0 (pI P) 15 [(0, .ref 41), (1, .int x1), (2, .int x2), (3, .int x3), (4, .int x4), (5, .int x5)] [] (HP σ)) (x1 : Int32) (x2 : Int32) (x3 : Int32) (x4 : Int32) (x5 : Int32) (σ : PS) (h : hO (fX1_companions_80 r15 x1 x2 x3 x4 x5 σ) P) : X g mX1_companions 0 0 0 (pI P) 80 [(0, .ref 41), (1, .int x1), (2, .int x2), (3, .int x3), (4, .int x4), (5, .int x5)] [] (HP σ) := by
  unfold fX1_companions_80 at h
  refine X_iinc 5 1 [(5, .int (x5 + 1)), (0, .ref 41), (1, .int x1), (2, .int x2), (3, .int x3), (4, .int x4)] (dk KX1_companions 49 rfl) rfl (by decide) (by decide) rfl ?_
  refine X_goto 15 (dk KX1_companions 50 rfl) (by decide) ?_
  refine X_sub [(0, .ref 41), (1, .int x1), (2, .int x2), (3, .int x3), (4, .int x4), (5, .int (x5 + 1))] [1, 2, 3, 4, 5, 0] rfl ?_
  exact hr_15 x1 x2 x3 x4 (x5 + 1) σ h
def fX1_companions_15 : Nat → Int32 → Int32 → Int32 → Int32 → Int32 → PS → Option (Int32 × PS)
  | 0, _, _, _, _, _, _ => none
  | n + 1, x1, x2, x3, x4, x5, σ => (if (gi σ 3 6) ≤ x5 then some (x3, σ) else (if x5 = x1 then fX1_companions_80 (fX1_companions_15 n) x1 x2 x3 x4 x5 σ else (if x4 = (-1) then fX1_companions_80 (fX1_companions_15 n) x1 x2 x3 x4 x5 σ else gd (inb x5 6) (gd (inb x2 60) ((if (gi σ (rw_ 43 x5) (x2 : Int32).toNatClampNeg) = x4 then gd (inb x5 6) (gd (inb x2 60) (gd (inb x1 6) (gd (inb x2 60) ((if (gi σ (rw_ 50 x5) (x2 : Int32).toNatClampNeg) = (gi σ (rw_ 50 x1) (x2 : Int32).toNatClampNeg) then fX1_companions_80 (fX1_companions_15 n) x1 x2 (x3 ||| (1 <<< (x5 &&& 31))) x4 x5 σ else fX1_companions_80 (fX1_companions_15 n) x1 x2 x3 x4 x5 σ))))) else fX1_companions_80 (fX1_companions_15 n) x1 x2 x3 x4 x5 σ))))))
set_option maxRecDepth 100000 in
set_option maxHeartbeats 4000000 in
theorem tX1_companions_15 {P : Int32 × PS → Prop} : ∀ (n : Nat) (x1 : Int32) (x2 : Int32) (x3 : Int32) (x4 : Int32) (x5 : Int32) (σ : PS), hO (fX1_companions_15 n x1 x2 x3 x4 x5 σ) P → X g mX1_companions 0 0 0 (pI P) 15 [(0, .ref 41), (1, .int x1), (2, .int x2), (3, .int x3), (4, .int x4), (5, .int x5)] [] (HP σ) := by
  intro n
  induction n with
  | zero =>
    intro x1 x2 x3 x4 x5 σ h
    rw [fX1_companions_15] at h
    exact (hO_none h).elim
  | succ n ih =>
    intro x1 x2 x3 x4 x5 σ h
    rw [fX1_companions_15] at h
    refine X_iload 5 rfl (dk KX1_companions 11 rfl) ?_
    refine X_aload_n 0 rfl (dk KX1_companions 12 rfl) ?_
    refine Y_getR 3 fX1_48 (Nat.le_of_ble_eq_true rfl) rfl rfl (dk KX1_companions 13 rfl) ?_
    refine Y_getI fX1_79 (Nat.le_of_ble_eq_true rfl) rfl (dk KX1_companions 14 rfl) ?_
    refine X_icmp_ge 86 (dk KX1_companions 15 rfl) (by decide) (fun hc => ?_) (fun hc => ?_)
    · have h := hO_t hc h
      refine X_iload_n 3 rfl (dk KX1_companions 51 rfl) ?_
      exact Y_iret (dk KX1_companions 52 rfl) rfl h
    · have h := hO_f hc h
      refine X_iload 5 rfl (dk KX1_companions 16 rfl) ?_
      refine X_iload_n 1 rfl (dk KX1_companions 17 rfl) ?_
      refine X_icmp_eq 80 (dk KX1_companions 18 rfl) (by decide) (fun hc => ?_) (fun hc => ?_)
      · have h := hO_t hc h
        exact tX1_companions_80 ih x1 x2 x3 x4 x5 σ h
      · have h := hO_f hc h
        refine X_iload 4 rfl (dk KX1_companions 19 rfl) ?_
        refine X_iconst (dk KX1_companions 20 rfl) (-1) (by decide) ?_
        refine X_icmp_eq 80 (dk KX1_companions 21 rfl) (by decide) (fun hc => ?_) (fun hc => ?_)
        · have h := hO_t hc h
          exact tX1_companions_80 ih x1 x2 x3 x4 x5 σ h
        · have h := hO_f hc h
          refine X_aload_n 0 rfl (dk KX1_companions 22 rfl) ?_
          refine Y_getR 43 fX1_17 (Nat.le_of_ble_eq_true rfl) rfl rfl (dk KX1_companions 23 rfl) ?_
          refine X_iload 5 rfl (dk KX1_companions 24 rfl) ?_
          refine Y_aald (rw_ 43 x5) (Nat.le_of_ble_eq_true rfl) rfl (gr43_rf _ _) (dk KX1_companions 25 rfl) h (fun hi3 h => ?_)
          refine X_iload_n 2 rfl (dk KX1_companions 26 rfl) ?_
          refine Y_iald (gr43_lt hi3) (gr43_ob hi3) (dk KX1_companions 27 rfl) h (fun hi4 h => ?_)
          refine X_iload 4 rfl (dk KX1_companions 28 rfl) ?_
          refine X_icmp_ne 80 (dk KX1_companions 29 rfl) (by decide) (fun hc => ?_) (fun hc => ?_)
          · have h := hO_f hc h
            exact tX1_companions_80 ih x1 x2 x3 x4 x5 σ h
          · have h := hO_t hc h
            refine X_aload_n 0 rfl (dk KX1_companions 30 rfl) ?_
            refine Y_getR 50 fX1_20 (Nat.le_of_ble_eq_true rfl) rfl rfl (dk KX1_companions 31 rfl) ?_
            refine X_iload 5 rfl (dk KX1_companions 32 rfl) ?_
            refine Y_aald (rw_ 50 x5) (Nat.le_of_ble_eq_true rfl) rfl (gr50_rf _ _) (dk KX1_companions 33 rfl) h (fun hi5 h => ?_)
            refine X_iload_n 2 rfl (dk KX1_companions 34 rfl) ?_
            refine Y_iald (gr50_lt hi5) (gr50_ob hi5) (dk KX1_companions 35 rfl) h (fun hi6 h => ?_)
            refine X_aload_n 0 rfl (dk KX1_companions 36 rfl) ?_
            refine Y_getR 50 fX1_20 (Nat.le_of_ble_eq_true rfl) rfl rfl (dk KX1_companions 37 rfl) ?_
            refine X_iload_n 1 rfl (dk KX1_companions 38 rfl) ?_
            refine Y_aald (rw_ 50 x1) (Nat.le_of_ble_eq_true rfl) rfl (gr50_rf _ _) (dk KX1_companions 39 rfl) h (fun hi7 h => ?_)
            refine X_iload_n 2 rfl (dk KX1_companions 40 rfl) ?_
            refine Y_iald (gr50_lt hi7) (gr50_ob hi7) (dk KX1_companions 41 rfl) h (fun hi8 h => ?_)
            refine X_icmp_ne 80 (dk KX1_companions 42 rfl) (by decide) (fun hc => ?_) (fun hc => ?_)
            · have h := hO_f hc h
              exact tX1_companions_80 ih x1 x2 x3 x4 x5 σ h
            · have h := hO_t hc h
              refine X_iload_n 3 rfl (dk KX1_companions 43 rfl) ?_
              refine X_iconst (dk KX1_companions 44 rfl) 1 (by decide) ?_
              refine X_iload 5 rfl (dk KX1_companions 45 rfl) ?_
              refine X_ishl (dk KX1_companions 46 rfl) ?_
              refine X_ior (dk KX1_companions 47 rfl) ?_
              refine X_istore_n [(3, .int (x3 ||| (1 <<< (x5 &&& 31)))), (0, .ref 41), (1, .int x1), (2, .int x2), (4, .int x4), (5, .int x5)] (dk KX1_companions 48 rfl) (by decide) rfl ?_
              refine X_sub [(0, .ref 41), (1, .int x1), (2, .int x2), (3, .int (x3 ||| (1 <<< (x5 &&& 31)))), (4, .int x4), (5, .int x5)] [1, 2, 3, 0, 4, 5] rfl ?_
              exact tX1_companions_80 ih x1 x2 (x3 ||| (1 <<< (x5 &&& 31))) x4 x5 σ h
def fX1_companions (a1 : Int32) (a2 : Int32) (σ : PS) : Option (Int32 × PS) := gd (inb a1 6) (gd (inb a2 60) (fX1_companions_15 FU a1 a2 0 (gi σ (rw_ 43 a1) (a2 : Int32).toNatClampNeg) 0 σ))
set_option maxRecDepth 100000 in
set_option maxHeartbeats 4000000 in
theorem okX1_companions (a1 : Int32) (a2 : Int32) (σ : PS) (P : Int32 × PS → Prop) (h : hO (fX1_companions a1 a2 σ) P) : CON g mX1_companions 0 0 0 [.ref 41, .int a1, .int a2] (HP σ) (pI P) := by
  refine CON.of (by decide) (by simp [lg_sl, Value.category]) ?_
  show X g _ _ _ _ _ 0 [(0, .ref 41), (1, .int a1), (2, .int a2)] [] _
  unfold fX1_companions at h
  refine X_iconst (dk KX1_companions 0 rfl) 0 (by decide) ?_
  refine X_istore_n [(3, .int 0), (0, .ref 41), (1, .int a1), (2, .int a2)] (dk KX1_companions 1 rfl) (by decide) rfl ?_
  refine X_aload_n 1 rfl (dk KX1_companions 2 rfl) ?_
  refine Y_getR 43 fX1_17 (Nat.le_of_ble_eq_true rfl) rfl rfl (dk KX1_companions 3 rfl) ?_
  refine X_iload_n 2 rfl (dk KX1_companions 4 rfl) ?_
  refine Y_aald (rw_ 43 a1) (Nat.le_of_ble_eq_true rfl) rfl (gr43_rf _ _) (dk KX1_companions 5 rfl) h (fun hi1 h => ?_)
  refine X_iload_n 3 rfl (dk KX1_companions 6 rfl) ?_
  refine Y_iald (gr43_lt hi1) (gr43_ob hi1) (dk KX1_companions 7 rfl) h (fun hi2 h => ?_)
  refine X_istore [(4, .int (gi σ (rw_ 43 a1) (a2 : Int32).toNatClampNeg)), (3, .int 0), (0, .ref 41), (1, .int a1), (2, .int a2)] (dk KX1_companions 8 rfl) (by decide) rfl ?_
  refine X_iconst (dk KX1_companions 9 rfl) 0 (by decide) ?_
  refine X_istore [(5, .int 0), (4, .int (gi σ (rw_ 43 a1) (a2 : Int32).toNatClampNeg)), (3, .int 0), (0, .ref 41), (1, .int a1), (2, .int a2)] (dk KX1_companions 10 rfl) (by decide) rfl ?_
  refine X_sub [(0, .ref 41), (1, .int a1), (2, .int a2), (3, .int 0), (4, .int (gi σ (rw_ 43 a1) (a2 : Int32).toNatClampNeg)), (5, .int 0)] [3, 4, 5, 2, 1, 0] rfl ?_
  exact tX1_companions_15 FU a1 a2 0 (gi σ (rw_ 43 a1) (a2 : Int32).toNatClampNeg) 0 σ h

end G
