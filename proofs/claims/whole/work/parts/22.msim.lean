section G
variable {g : GP}
def fX9_asks (a1 : Int32) (a2 : Int32) (a3 : Int32) (σ : PS) : Option (PS) := gd (inb a1 6) (gd (inb 0 8) (gd (inb a1 6) (gd (inb 1 8) (gd (inb a1 6) (gd (inb 2 8) (gd (inb a1 6) (gd (inb 3 8) (gd (inb a1 6) (gd (inb 4 8) (gd (inb 5 8) (gd (inb 6 8) (gd (inb a1 6) (gd (inb 7 8) (some (sI (sI (sI (sI (sI (sI (sI (sI σ 187 (0 : Int32).toNatClampNeg (gi σ 161 (a1 : Int32).toNatClampNeg)) 187 (1 : Int32).toNatClampNeg (gi (sI σ 187 (0 : Int32).toNatClampNeg (gi σ 161 (a1 : Int32).toNatClampNeg)) 162 (a1 : Int32).toNatClampNeg)) 187 (2 : Int32).toNatClampNeg (gi (sI (sI σ 187 (0 : Int32).toNatClampNeg (gi σ 161 (a1 : Int32).toNatClampNeg)) 187 (1 : Int32).toNatClampNeg (gi (sI σ 187 (0 : Int32).toNatClampNeg (gi σ 161 (a1 : Int32).toNatClampNeg)) 162 (a1 : Int32).toNatClampNeg)) 163 (a1 : Int32).toNatClampNeg)) 187 (3 : Int32).toNatClampNeg (gi (sI (sI (sI σ 187 (0 : Int32).toNatClampNeg (gi σ 161 (a1 : Int32).toNatClampNeg)) 187 (1 : Int32).toNatClampNeg (gi (sI σ 187 (0 : Int32).toNatClampNeg (gi σ 161 (a1 : Int32).toNatClampNeg)) 162 (a1 : Int32).toNatClampNeg)) 187 (2 : Int32).toNatClampNeg (gi (sI (sI σ 187 (0 : Int32).toNatClampNeg (gi σ 161 (a1 : Int32).toNatClampNeg)) 187 (1 : Int32).toNatClampNeg (gi (sI σ 187 (0 : Int32).toNatClampNeg (gi σ 161 (a1 : Int32).toNatClampNeg)) 162 (a1 : Int32).toNatClampNeg)) 163 (a1 : Int32).toNatClampNeg)) 167 (a1 : Int32).toNatClampNeg)) 187 (4 : Int32).toNatClampNeg (gi (sI (sI (sI (sI σ 187 (0 : Int32).toNatClampNeg (gi σ 161 (a1 : Int32).toNatClampNeg)) 187 (1 : Int32).toNatClampNeg (gi (sI σ 187 (0 : Int32).toNatClampNeg (gi σ 161 (a1 : Int32).toNatClampNeg)) 162 (a1 : Int32).toNatClampNeg)) 187 (2 : Int32).toNatClampNeg (gi (sI (sI σ 187 (0 : Int32).toNatClampNeg (gi σ 161 (a1 : Int32).toNatClampNeg)) 187 (1 : Int32).toNatClampNeg (gi (sI σ 187 (0 : Int32).toNatClampNeg (gi σ 161 (a1 : Int32).toNatClampNeg)) 162 (a1 : Int32).toNatClampNeg)) 163 (a1 : Int32).toNatClampNeg)) 187 (3 : Int32).toNatClampNeg (gi (sI (sI (sI σ 187 (0 : Int32).toNatClampNeg (gi σ 161 (a1 : Int32).toNatClampNeg)) 187 (1 : Int32).toNatClampNeg (gi (sI σ 187 (0 : Int32).toNatClampNeg (gi σ 161 (a1 : Int32).toNatClampNeg)) 162 (a1 : Int32).toNatClampNeg)) 187 (2 : Int32).toNatClampNeg (gi (sI (sI σ 187 (0 : Int32).toNatClampNeg (gi σ 161 (a1 : Int32).toNatClampNeg)) 187 (1 : Int32).toNatClampNeg (gi (sI σ 187 (0 : Int32).toNatClampNeg (gi σ 161 (a1 : Int32).toNatClampNeg)) 162 (a1 : Int32).toNatClampNeg)) 163 (a1 : Int32).toNatClampNeg)) 167 (a1 : Int32).toNatClampNeg)) 183 (a1 : Int32).toNatClampNeg)) 187 (5 : Int32).toNatClampNeg a2) 187 (6 : Int32).toNatClampNeg a3) 187 (7 : Int32).toNatClampNeg (gi (sI (sI (sI (sI (sI (sI (sI σ 187 (0 : Int32).toNatClampNeg (gi σ 161 (a1 : Int32).toNatClampNeg)) 187 (1 : Int32).toNatClampNeg (gi (sI σ 187 (0 : Int32).toNatClampNeg (gi σ 161 (a1 : Int32).toNatClampNeg)) 162 (a1 : Int32).toNatClampNeg)) 187 (2 : Int32).toNatClampNeg (gi (sI (sI σ 187 (0 : Int32).toNatClampNeg (gi σ 161 (a1 : Int32).toNatClampNeg)) 187 (1 : Int32).toNatClampNeg (gi (sI σ 187 (0 : Int32).toNatClampNeg (gi σ 161 (a1 : Int32).toNatClampNeg)) 162 (a1 : Int32).toNatClampNeg)) 163 (a1 : Int32).toNatClampNeg)) 187 (3 : Int32).toNatClampNeg (gi (sI (sI (sI σ 187 (0 : Int32).toNatClampNeg (gi σ 161 (a1 : Int32).toNatClampNeg)) 187 (1 : Int32).toNatClampNeg (gi (sI σ 187 (0 : Int32).toNatClampNeg (gi σ 161 (a1 : Int32).toNatClampNeg)) 162 (a1 : Int32).toNatClampNeg)) 187 (2 : Int32).toNatClampNeg (gi (sI (sI σ 187 (0 : Int32).toNatClampNeg (gi σ 161 (a1 : Int32).toNatClampNeg)) 187 (1 : Int32).toNatClampNeg (gi (sI σ 187 (0 : Int32).toNatClampNeg (gi σ 161 (a1 : Int32).toNatClampNeg)) 162 (a1 : Int32).toNatClampNeg)) 163 (a1 : Int32).toNatClampNeg)) 167 (a1 : Int32).toNatClampNeg)) 187 (4 : Int32).toNatClampNeg (gi (sI (sI (sI (sI σ 187 (0 : Int32).toNatClampNeg (gi σ 161 (a1 : Int32).toNatClampNeg)) 187 (1 : Int32).toNatClampNeg (gi (sI σ 187 (0 : Int32).toNatClampNeg (gi σ 161 (a1 : Int32).toNatClampNeg)) 162 (a1 : Int32).toNatClampNeg)) 187 (2 : Int32).toNatClampNeg (gi (sI (sI σ 187 (0 : Int32).toNatClampNeg (gi σ 161 (a1 : Int32).toNatClampNeg)) 187 (1 : Int32).toNatClampNeg (gi (sI σ 187 (0 : Int32).toNatClampNeg (gi σ 161 (a1 : Int32).toNatClampNeg)) 162 (a1 : Int32).toNatClampNeg)) 163 (a1 : Int32).toNatClampNeg)) 187 (3 : Int32).toNatClampNeg (gi (sI (sI (sI σ 187 (0 : Int32).toNatClampNeg (gi σ 161 (a1 : Int32).toNatClampNeg)) 187 (1 : Int32).toNatClampNeg (gi (sI σ 187 (0 : Int32).toNatClampNeg (gi σ 161 (a1 : Int32).toNatClampNeg)) 162 (a1 : Int32).toNatClampNeg)) 187 (2 : Int32).toNatClampNeg (gi (sI (sI σ 187 (0 : Int32).toNatClampNeg (gi σ 161 (a1 : Int32).toNatClampNeg)) 187 (1 : Int32).toNatClampNeg (gi (sI σ 187 (0 : Int32).toNatClampNeg (gi σ 161 (a1 : Int32).toNatClampNeg)) 162 (a1 : Int32).toNatClampNeg)) 163 (a1 : Int32).toNatClampNeg)) 167 (a1 : Int32).toNatClampNeg)) 183 (a1 : Int32).toNatClampNeg)) 187 (5 : Int32).toNatClampNeg a2) 187 (6 : Int32).toNatClampNeg a3) 184 (a1 : Int32).toNatClampNeg))))))))))))))))
set_option maxRecDepth 100000 in
set_option maxHeartbeats 4000000 in
theorem okX9_asks (a1 : Int32) (a2 : Int32) (a3 : Int32) (σ : PS) (P : PS → Prop) (h : hO (fX9_asks a1 a2 a3 σ) P) : CON g mX9_asks 0 0 0 [.ref 132, .int a1, .int a2, .int a3] (HP σ) (pV P) := by
  refine CON.of (by decide) (by simp [lg_sl, Value.category]) ?_
  show X g _ _ _ _ _ 0 [(0, .ref 132), (1, .int a1), (2, .int a2), (3, .int a3)] [] _
  unfold fX9_asks at h
  refine X_aload_n 0 rfl (dk KX9_asks 0 rfl) ?_
  refine Y_getR 187 fX9_185 (Nat.le_of_ble_eq_true rfl) rfl rfl (dk KX9_asks 1 rfl) ?_
  refine X_iconst (dk KX9_asks 2 rfl) 0 (by decide) ?_
  refine X_aload_n 0 rfl (dk KX9_asks 3 rfl) ?_
  refine Y_getR 161 fX9_104 (Nat.le_of_ble_eq_true rfl) rfl rfl (dk KX9_asks 4 rfl) ?_
  refine X_iload_n 1 rfl (dk KX9_asks 5 rfl) ?_
  refine Y_iald (Nat.le_of_ble_eq_true rfl) rfl (dk KX9_asks 6 rfl) h (fun hi1 h => ?_)
  refine Y_iast (Nat.le_of_ble_eq_true rfl) rfl (dk KX9_asks 7 rfl) h (fun hi2 h => ?_)
  refine X_aload_n 0 rfl (dk KX9_asks 8 rfl) ?_
  refine Y_getR 187 fX9_185 (Nat.le_of_ble_eq_true rfl) rfl rfl (dk KX9_asks 9 rfl) ?_
  refine X_iconst (dk KX9_asks 10 rfl) 1 (by decide) ?_
  refine X_aload_n 0 rfl (dk KX9_asks 11 rfl) ?_
  refine Y_getR 162 fX9_107 (Nat.le_of_ble_eq_true rfl) rfl rfl (dk KX9_asks 12 rfl) ?_
  refine X_iload_n 1 rfl (dk KX9_asks 13 rfl) ?_
  refine Y_iald (Nat.le_of_ble_eq_true rfl) rfl (dk KX9_asks 14 rfl) h (fun hi3 h => ?_)
  refine Y_iast (Nat.le_of_ble_eq_true rfl) rfl (dk KX9_asks 15 rfl) h (fun hi4 h => ?_)
  refine X_aload_n 0 rfl (dk KX9_asks 16 rfl) ?_
  refine Y_getR 187 fX9_185 (Nat.le_of_ble_eq_true rfl) rfl rfl (dk KX9_asks 17 rfl) ?_
  refine X_iconst (dk KX9_asks 18 rfl) 2 (by decide) ?_
  refine X_aload_n 0 rfl (dk KX9_asks 19 rfl) ?_
  refine Y_getR 163 fX9_110 (Nat.le_of_ble_eq_true rfl) rfl rfl (dk KX9_asks 20 rfl) ?_
  refine X_iload_n 1 rfl (dk KX9_asks 21 rfl) ?_
  refine Y_iald (Nat.le_of_ble_eq_true rfl) rfl (dk KX9_asks 22 rfl) h (fun hi5 h => ?_)
  refine Y_iast (Nat.le_of_ble_eq_true rfl) rfl (dk KX9_asks 23 rfl) h (fun hi6 h => ?_)
  refine X_aload_n 0 rfl (dk KX9_asks 24 rfl) ?_
  refine Y_getR 187 fX9_185 (Nat.le_of_ble_eq_true rfl) rfl rfl (dk KX9_asks 25 rfl) ?_
  refine X_iconst (dk KX9_asks 26 rfl) 3 (by decide) ?_
  refine X_aload_n 0 rfl (dk KX9_asks 27 rfl) ?_
  refine Y_getR 167 fX9_122 (Nat.le_of_ble_eq_true rfl) rfl rfl (dk KX9_asks 28 rfl) ?_
  refine X_iload_n 1 rfl (dk KX9_asks 29 rfl) ?_
  refine Y_iald (Nat.le_of_ble_eq_true rfl) rfl (dk KX9_asks 30 rfl) h (fun hi7 h => ?_)
  refine Y_iast (Nat.le_of_ble_eq_true rfl) rfl (dk KX9_asks 31 rfl) h (fun hi8 h => ?_)
  refine X_aload_n 0 rfl (dk KX9_asks 32 rfl) ?_
  refine Y_getR 187 fX9_185 (Nat.le_of_ble_eq_true rfl) rfl rfl (dk KX9_asks 33 rfl) ?_
  refine X_iconst (dk KX9_asks 34 rfl) 4 (by decide) ?_
  refine X_aload_n 0 rfl (dk KX9_asks 35 rfl) ?_
  refine Y_getR 183 fX9_173 (Nat.le_of_ble_eq_true rfl) rfl rfl (dk KX9_asks 36 rfl) ?_
  refine X_iload_n 1 rfl (dk KX9_asks 37 rfl) ?_
  refine Y_iald (Nat.le_of_ble_eq_true rfl) rfl (dk KX9_asks 38 rfl) h (fun hi9 h => ?_)
  refine Y_iast (Nat.le_of_ble_eq_true rfl) rfl (dk KX9_asks 39 rfl) h (fun hi10 h => ?_)
  refine X_aload_n 0 rfl (dk KX9_asks 40 rfl) ?_
  refine Y_getR 187 fX9_185 (Nat.le_of_ble_eq_true rfl) rfl rfl (dk KX9_asks 41 rfl) ?_
  refine X_iconst (dk KX9_asks 42 rfl) 5 (by decide) ?_
  refine X_iload_n 2 rfl (dk KX9_asks 43 rfl) ?_
  refine Y_iast (Nat.le_of_ble_eq_true rfl) rfl (dk KX9_asks 44 rfl) h (fun hi11 h => ?_)
  refine X_aload_n 0 rfl (dk KX9_asks 45 rfl) ?_
  refine Y_getR 187 fX9_185 (Nat.le_of_ble_eq_true rfl) rfl rfl (dk KX9_asks 46 rfl) ?_
  refine X_bipush (dk KX9_asks 47 rfl) 6 (by decide) ?_
  refine X_iload_n 3 rfl (dk KX9_asks 48 rfl) ?_
  refine Y_iast (Nat.le_of_ble_eq_true rfl) rfl (dk KX9_asks 49 rfl) h (fun hi12 h => ?_)
  refine X_aload_n 0 rfl (dk KX9_asks 50 rfl) ?_
  refine Y_getR 187 fX9_185 (Nat.le_of_ble_eq_true rfl) rfl rfl (dk KX9_asks 51 rfl) ?_
  refine X_bipush (dk KX9_asks 52 rfl) 7 (by decide) ?_
  refine X_aload_n 0 rfl (dk KX9_asks 53 rfl) ?_
  refine Y_getR 184 fX9_176 (Nat.le_of_ble_eq_true rfl) rfl rfl (dk KX9_asks 54 rfl) ?_
  refine X_iload_n 1 rfl (dk KX9_asks 55 rfl) ?_
  refine Y_iald (Nat.le_of_ble_eq_true rfl) rfl (dk KX9_asks 56 rfl) h (fun hi13 h => ?_)
  refine Y_iast (Nat.le_of_ble_eq_true rfl) rfl (dk KX9_asks 57 rfl) h (fun hi14 h => ?_)
  exact Y_vret (dk KX9_asks 58 rfl) rfl h

def fX9_value_138 (r5 : Int32 → Int32 → Int32 → PS → Option (Int32 × PS)) (x2 : Int32) (x3 : Int32) (x4 : Int32) (σ : PS) : Option (Int32 × PS) := r5 x2 x3 (x4 + 1) σ
set_option maxRecDepth 100000 in
set_option maxHeartbeats 4000000 in
theorem tX9_value_138 {P : Int32 × PS → Prop} {r5 : Int32 → Int32 → Int32 → PS → Option (Int32 × PS)} (hr_5 : ∀ (x2 : Int32) (x3 : Int32) (x4 : Int32) (σ : PS), hO (r5 x2 x3 x4 σ) P → X g mX9_value 0 0 0 (pI P) 5 [(0, .ref 132), (2, .int x2), (3, .int x3), (4, .int x4)] [] (HP σ)) (x2 : Int32) (x3 : Int32) (x4 : Int32) (σ : PS) (h : hO (fX9_value_138 r5 x2 x3 x4 σ) P) : X g mX9_value 0 0 0 (pI P) 138 [(0, .ref 132), (2, .int x2), (3, .int x3), (4, .int x4)] [] (HP σ) := by
  unfold fX9_value_138 at h
  refine X_iinc 3 1 [(4, .int (x4 + 1)), (0, .ref 132), (2, .int x2), (3, .int x3)] (dk KX9_value 78 rfl) rfl (by decide) (by decide) rfl ?_
  refine X_goto 5 (dk KX9_value 79 rfl) (by decide) ?_
  refine X_sub [(0, .ref 132), (2, .int x2), (3, .int x3), (4, .int (x4 + 1))] [1, 2, 3, 0] rfl ?_
  exact hr_5 x2 x3 (x4 + 1) σ h
def fX9_value_137 (r5 : Int32 → Int32 → Int32 → PS → Option (Int32 × PS)) (x2 : Int32) (x3 : Int32) (x4 : Int32) (s1 : Int32) (s2 : Int32) (σ : PS) : Option (Int32 × PS) := gd (inb s1 500) (fX9_value_138 r5 x2 x3 x4 (sI σ 188 (s1 : Int32).toNatClampNeg s2))
set_option maxRecDepth 100000 in
set_option maxHeartbeats 4000000 in
theorem tX9_value_137 {P : Int32 × PS → Prop} {r5 : Int32 → Int32 → Int32 → PS → Option (Int32 × PS)} (hr_5 : ∀ (x2 : Int32) (x3 : Int32) (x4 : Int32) (σ : PS), hO (r5 x2 x3 x4 σ) P → X g mX9_value 0 0 0 (pI P) 5 [(0, .ref 132), (2, .int x2), (3, .int x3), (4, .int x4)] [] (HP σ)) (x2 : Int32) (x3 : Int32) (x4 : Int32) (s1 : Int32) (s2 : Int32) (σ : PS) (h : hO (fX9_value_137 r5 x2 x3 x4 s1 s2 σ) P) : X g mX9_value 0 0 0 (pI P) 137 [(0, .ref 132), (2, .int x2), (3, .int x3), (4, .int x4)] [.int s2, .int s1, .ref 188] (HP σ) := by
  unfold fX9_value_137 at h
  refine Y_iast (Nat.le_of_ble_eq_true rfl) rfl (dk KX9_value 77 rfl) h (fun hi12 h => ?_)
  exact tX9_value_138 hr_5 x2 x3 x4 (sI σ 188 (s1 : Int32).toNatClampNeg s2) h
def fX9_value_59 (r5 : Int32 → Int32 → Int32 → PS → Option (Int32 × PS)) (x2 : Int32) (x3 : Int32) (x4 : Int32) (s1 : Int32) (s2 : Int32) (σ : PS) : Option (Int32 × PS) := gd (inb s1 500) (fX9_value_138 r5 x2 (x3 + 1) x4 (sI σ 188 (s1 : Int32).toNatClampNeg s2))
set_option maxRecDepth 100000 in
set_option maxHeartbeats 4000000 in
theorem tX9_value_59 {P : Int32 × PS → Prop} {r5 : Int32 → Int32 → Int32 → PS → Option (Int32 × PS)} (hr_5 : ∀ (x2 : Int32) (x3 : Int32) (x4 : Int32) (σ : PS), hO (r5 x2 x3 x4 σ) P → X g mX9_value 0 0 0 (pI P) 5 [(0, .ref 132), (2, .int x2), (3, .int x3), (4, .int x4)] [] (HP σ)) (x2 : Int32) (x3 : Int32) (x4 : Int32) (s1 : Int32) (s2 : Int32) (σ : PS) (h : hO (fX9_value_59 r5 x2 x3 x4 s1 s2 σ) P) : X g mX9_value 0 0 0 (pI P) 59 [(0, .ref 132), (2, .int x2), (3, .int x3), (4, .int x4)] [.int s2, .int s1, .ref 188] (HP σ) := by
  unfold fX9_value_59 at h
  refine Y_iast (Nat.le_of_ble_eq_true rfl) rfl (dk KX9_value 33 rfl) h (fun hi11 h => ?_)
  refine X_iinc 2 1 [(3, .int (x3 + 1)), (0, .ref 132), (2, .int x2), (4, .int x4)] (dk KX9_value 34 rfl) rfl (by decide) (by decide) rfl ?_
  refine X_goto 138 (dk KX9_value 35 rfl) (by decide) ?_
  refine X_sub [(0, .ref 132), (2, .int x2), (3, .int (x3 + 1)), (4, .int x4)] [1, 2, 0, 3] rfl ?_
  exact tX9_value_138 hr_5 x2 (x3 + 1) x4 (sI σ 188 (s1 : Int32).toNatClampNeg s2) h
def fX9_value_5 : Nat → Int32 → Int32 → Int32 → PS → Option (Int32 × PS)
  | 0, _, _, _, _ => none
  | n + 1, x2, x3, x4, σ => (if x2 ≤ x4 then gd (inb 0 500) (some ((gi σ 188 (0 : Int32).toNatClampNeg), σ)) else gd (inb x4 1000) ((if 2 ≤ (gi σ 153 (x4 : Int32).toNatClampNeg) then gd (inb ((x3 + (-1)) - 1) 500) (gd (inb (x3 + (-1)) 500) (gd (inb x4 1000) ((if (gi σ 153 (x4 : Int32).toNatClampNeg) = 2 then fX9_value_137 (fX9_value_5 n) x2 (x3 + (-1)) x4 ((x3 + (-1)) - 1) ((gi σ 188 (((x3 + (-1)) - 1) : Int32).toNatClampNeg) + (gi σ 188 ((x3 + (-1)) : Int32).toNatClampNeg)) σ else gd (inb x4 1000) ((if (gi σ 153 (x4 : Int32).toNatClampNeg) = 3 then fX9_value_137 (fX9_value_5 n) x2 (x3 + (-1)) x4 ((x3 + (-1)) - 1) ((gi σ 188 (((x3 + (-1)) - 1) : Int32).toNatClampNeg) - (gi σ 188 ((x3 + (-1)) : Int32).toNatClampNeg)) σ else fX9_value_137 (fX9_value_5 n) x2 (x3 + (-1)) x4 ((x3 + (-1)) - 1) ((gi σ 188 (((x3 + (-1)) - 1) : Int32).toNatClampNeg) * (gi σ 188 ((x3 + (-1)) : Int32).toNatClampNeg)) σ)))))) else gd (inb x4 1000) ((if (gi σ 153 (x4 : Int32).toNatClampNeg) = 0 then gd (inb x4 1000) (fX9_value_59 (fX9_value_5 n) x2 x3 x4 x3 (gi σ 154 (x4 : Int32).toNatClampNeg) σ) else gd (inb x4 1000) (gd (inb (gi σ 154 (x4 : Int32).toNatClampNeg) 8) (fX9_value_59 (fX9_value_5 n) x2 x3 x4 x3 (gi σ 187 ((gi σ 154 (x4 : Int32).toNatClampNeg) : Int32).toNatClampNeg) σ)))))))
set_option maxRecDepth 100000 in
set_option maxHeartbeats 4000000 in
theorem tX9_value_5 {P : Int32 × PS → Prop} : ∀ (n : Nat) (x2 : Int32) (x3 : Int32) (x4 : Int32) (σ : PS), hO (fX9_value_5 n x2 x3 x4 σ) P → X g mX9_value 0 0 0 (pI P) 5 [(0, .ref 132), (2, .int x2), (3, .int x3), (4, .int x4)] [] (HP σ) := by
  intro n
  induction n with
  | zero =>
    intro x2 x3 x4 σ h
    rw [fX9_value_5] at h
    exact (hO_none h).elim
  | succ n ih =>
    intro x2 x3 x4 σ h
    rw [fX9_value_5] at h
    refine X_iload 3 rfl (dk KX9_value 4 rfl) ?_
    refine X_iload_n 1 rfl (dk KX9_value 5 rfl) ?_
    refine X_icmp_ge 144 (dk KX9_value 6 rfl) (by decide) (fun hc => ?_) (fun hc => ?_)
    · have h := hO_t hc h
      refine X_aload_n 0 rfl (dk KX9_value 80 rfl) ?_
      refine Y_getR 188 fX9_188 (Nat.le_of_ble_eq_true rfl) rfl rfl (dk KX9_value 81 rfl) ?_
      refine X_iconst (dk KX9_value 82 rfl) 0 (by decide) ?_
      refine Y_iald (Nat.le_of_ble_eq_true rfl) rfl (dk KX9_value 83 rfl) h (fun hi1 h => ?_)
      exact Y_iret (dk KX9_value 84 rfl) rfl h
    · have h := hO_f hc h
      refine X_aload_n 0 rfl (dk KX9_value 7 rfl) ?_
      refine Y_getR 153 fX9_80 (Nat.le_of_ble_eq_true rfl) rfl rfl (dk KX9_value 8 rfl) ?_
      refine X_iload 3 rfl (dk KX9_value 9 rfl) ?_
      refine Y_iald (Nat.le_of_ble_eq_true rfl) rfl (dk KX9_value 10 rfl) h (fun hi2 h => ?_)
      refine X_iconst (dk KX9_value 11 rfl) 2 (by decide) ?_
      refine X_icmp_ge 66 (dk KX9_value 12 rfl) (by decide) (fun hc => ?_) (fun hc => ?_)
      · have h := hO_t hc h
        refine X_iinc 2 (-1) [(3, .int (x3 + (-1))), (0, .ref 132), (2, .int x2), (4, .int x4)] (dk KX9_value 36 rfl) rfl (by decide) (by decide) rfl ?_
        refine X_aload_n 1 rfl (dk KX9_value 37 rfl) ?_
        refine Y_getR 188 fX9_188 (Nat.le_of_ble_eq_true rfl) rfl rfl (dk KX9_value 38 rfl) ?_
        refine X_iload_n 0 rfl (dk KX9_value 39 rfl) ?_
        refine X_iconst (dk KX9_value 40 rfl) 1 (by decide) ?_
        refine X_isub (dk KX9_value 41 rfl) ?_
        refine Y_iald (Nat.le_of_ble_eq_true rfl) rfl (dk KX9_value 42 rfl) h (fun hi3 h => ?_)
        refine X_istore [(5, .int (gi σ 188 (((x3 + (-1)) - 1) : Int32).toNatClampNeg)), (3, .int (x3 + (-1))), (0, .ref 132), (2, .int x2), (4, .int x4)] (dk KX9_value 43 rfl) (by decide) rfl ?_
        refine X_aload_n 2 rfl (dk KX9_value 44 rfl) ?_
        refine Y_getR 188 fX9_188 (Nat.le_of_ble_eq_true rfl) rfl rfl (dk KX9_value 45 rfl) ?_
        refine X_iload_n 1 rfl (dk KX9_value 46 rfl) ?_
        refine Y_iald (Nat.le_of_ble_eq_true rfl) rfl (dk KX9_value 47 rfl) h (fun hi4 h => ?_)
        refine X_istore [(6, .int (gi σ 188 ((x3 + (-1)) : Int32).toNatClampNeg)), (5, .int (gi σ 188 (((x3 + (-1)) - 1) : Int32).toNatClampNeg)), (3, .int (x3 + (-1))), (0, .ref 132), (2, .int x2), (4, .int x4)] (dk KX9_value 48 rfl) (by decide) rfl ?_
        refine X_aload_n 3 rfl (dk KX9_value 49 rfl) ?_
        refine Y_getR 188 fX9_188 (Nat.le_of_ble_eq_true rfl) rfl rfl (dk KX9_value 50 rfl) ?_
        refine X_iload_n 2 rfl (dk KX9_value 51 rfl) ?_
        refine X_iconst (dk KX9_value 52 rfl) 1 (by decide) ?_
        refine X_isub (dk KX9_value 53 rfl) ?_
        refine X_aload_n 3 rfl (dk KX9_value 54 rfl) ?_
        refine Y_getR 153 fX9_80 (Nat.le_of_ble_eq_true rfl) rfl rfl (dk KX9_value 55 rfl) ?_
        refine X_iload 5 rfl (dk KX9_value 56 rfl) ?_
        refine Y_iald (Nat.le_of_ble_eq_true rfl) rfl (dk KX9_value 57 rfl) h (fun hi5 h => ?_)
        refine X_iconst (dk KX9_value 58 rfl) 2 (by decide) ?_
        refine X_icmp_ne 113 (dk KX9_value 59 rfl) (by decide) (fun hc => ?_) (fun hc => ?_)
        · have h := hO_f hc h
          refine X_aload_n 3 rfl (dk KX9_value 64 rfl) ?_
          refine Y_getR 153 fX9_80 (Nat.le_of_ble_eq_true rfl) rfl rfl (dk KX9_value 65 rfl) ?_
          refine X_iload 5 rfl (dk KX9_value 66 rfl) ?_
          refine Y_iald (Nat.le_of_ble_eq_true rfl) rfl (dk KX9_value 67 rfl) h (fun hi6 h => ?_)
          refine X_iconst (dk KX9_value 68 rfl) 3 (by decide) ?_
          refine X_icmp_ne 132 (dk KX9_value 69 rfl) (by decide) (fun hc => ?_) (fun hc => ?_)
          · have h := hO_f hc h
            refine X_iload 1 rfl (dk KX9_value 74 rfl) ?_
            refine X_iload 0 rfl (dk KX9_value 75 rfl) ?_
            refine X_imul (dk KX9_value 76 rfl) ?_
            refine X_sub [(0, .ref 132), (2, .int x2), (3, .int (x3 + (-1))), (4, .int x4)] [3, 4, 2, 5] rfl ?_
            exact tX9_value_137 ih x2 (x3 + (-1)) x4 ((x3 + (-1)) - 1) ((gi σ 188 (((x3 + (-1)) - 1) : Int32).toNatClampNeg) * (gi σ 188 ((x3 + (-1)) : Int32).toNatClampNeg)) σ h
          · have h := hO_t hc h
            refine X_iload 1 rfl (dk KX9_value 70 rfl) ?_
            refine X_iload 0 rfl (dk KX9_value 71 rfl) ?_
            refine X_isub (dk KX9_value 72 rfl) ?_
            refine X_goto 137 (dk KX9_value 73 rfl) (by decide) ?_
            refine X_sub [(0, .ref 132), (2, .int x2), (3, .int (x3 + (-1))), (4, .int x4)] [3, 4, 2, 5] rfl ?_
            exact tX9_value_137 ih x2 (x3 + (-1)) x4 ((x3 + (-1)) - 1) ((gi σ 188 (((x3 + (-1)) - 1) : Int32).toNatClampNeg) - (gi σ 188 ((x3 + (-1)) : Int32).toNatClampNeg)) σ h
        · have h := hO_t hc h
          refine X_iload 1 rfl (dk KX9_value 60 rfl) ?_
          refine X_iload 0 rfl (dk KX9_value 61 rfl) ?_
          refine X_iadd (dk KX9_value 62 rfl) ?_
          refine X_goto 137 (dk KX9_value 63 rfl) (by decide) ?_
          refine X_sub [(0, .ref 132), (2, .int x2), (3, .int (x3 + (-1))), (4, .int x4)] [3, 4, 2, 5] rfl ?_
          exact tX9_value_137 ih x2 (x3 + (-1)) x4 ((x3 + (-1)) - 1) ((gi σ 188 (((x3 + (-1)) - 1) : Int32).toNatClampNeg) + (gi σ 188 ((x3 + (-1)) : Int32).toNatClampNeg)) σ h
      · have h := hO_f hc h
        refine X_aload_n 0 rfl (dk KX9_value 13 rfl) ?_
        refine Y_getR 188 fX9_188 (Nat.le_of_ble_eq_true rfl) rfl rfl (dk KX9_value 14 rfl) ?_
        refine X_iload_n 2 rfl (dk KX9_value 15 rfl) ?_
        refine X_aload_n 0 rfl (dk KX9_value 16 rfl) ?_
        refine Y_getR 153 fX9_80 (Nat.le_of_ble_eq_true rfl) rfl rfl (dk KX9_value 17 rfl) ?_
        refine X_iload 3 rfl (dk KX9_value 18 rfl) ?_
        refine Y_iald (Nat.le_of_ble_eq_true rfl) rfl (dk KX9_value 19 rfl) h (fun hi7 h => ?_)
        refine X_if_ne 47 (dk KX9_value 20 rfl) (by decide) (fun hc => ?_) (fun hc => ?_)
        · have h := hO_f hc h
          refine X_aload_n 0 rfl (dk KX9_value 26 rfl) ?_
          refine Y_getR 187 fX9_185 (Nat.le_of_ble_eq_true rfl) rfl rfl (dk KX9_value 27 rfl) ?_
          refine X_aload_n 0 rfl (dk KX9_value 28 rfl) ?_
          refine Y_getR 154 fX9_83 (Nat.le_of_ble_eq_true rfl) rfl rfl (dk KX9_value 29 rfl) ?_
          refine X_iload 3 rfl (dk KX9_value 30 rfl) ?_
          refine Y_iald (Nat.le_of_ble_eq_true rfl) rfl (dk KX9_value 31 rfl) h (fun hi8 h => ?_)
          refine Y_iald (Nat.le_of_ble_eq_true rfl) rfl (dk KX9_value 32 rfl) h (fun hi9 h => ?_)
          exact tX9_value_59 ih x2 x3 x4 x3 (gi σ 187 ((gi σ 154 (x4 : Int32).toNatClampNeg) : Int32).toNatClampNeg) σ h
        · have h := hO_t hc h
          refine X_aload_n 0 rfl (dk KX9_value 21 rfl) ?_
          refine Y_getR 154 fX9_83 (Nat.le_of_ble_eq_true rfl) rfl rfl (dk KX9_value 22 rfl) ?_
          refine X_iload 3 rfl (dk KX9_value 23 rfl) ?_
          refine Y_iald (Nat.le_of_ble_eq_true rfl) rfl (dk KX9_value 24 rfl) h (fun hi10 h => ?_)
          refine X_goto 59 (dk KX9_value 25 rfl) (by decide) ?_
          exact tX9_value_59 ih x2 x3 x4 x3 (gi σ 154 (x4 : Int32).toNatClampNeg) σ h
def fX9_value (a1 : Int32) (a2 : Int32) (σ : PS) : Option (Int32 × PS) := fX9_value_5 FU a2 0 a1 σ
set_option maxRecDepth 100000 in
set_option maxHeartbeats 4000000 in
theorem okX9_value (a1 : Int32) (a2 : Int32) (σ : PS) (P : Int32 × PS → Prop) (h : hO (fX9_value a1 a2 σ) P) : CON g mX9_value 0 0 0 [.ref 132, .int a1, .int a2] (HP σ) (pI P) := by
  refine CON.of (by decide) (by simp [lg_sl, Value.category]) ?_
  show X g _ _ _ _ _ 0 [(0, .ref 132), (1, .int a1), (2, .int a2)] [] _
  unfold fX9_value at h
  refine X_iconst (dk KX9_value 0 rfl) 0 (by decide) ?_
  refine X_istore_n [(3, .int 0), (0, .ref 132), (1, .int a1), (2, .int a2)] (dk KX9_value 1 rfl) (by decide) rfl ?_
  refine X_iload_n 2 rfl (dk KX9_value 2 rfl) ?_
  refine X_istore [(4, .int a1), (3, .int 0), (0, .ref 132), (1, .int a1), (2, .int a2)] (dk KX9_value 3 rfl) (by decide) rfl ?_
  refine X_sub [(0, .ref 132), (2, .int a2), (3, .int 0), (4, .int a1)] [2, 4, 1, 0] rfl ?_
  exact tX9_value_5 FU a2 0 a1 σ h

def fX9_holds_213 (r26 : Int32 → Int32 → Int32 → PS → Option (Int32 × PS)) (x1 : Int32) (x2 : Int32) (x3 : Int32) (σ : PS) : Option (Int32 × PS) := r26 x1 x2 (x3 + 1) σ
set_option maxRecDepth 100000 in
set_option maxHeartbeats 4000000 in
theorem tX9_holds_213 {P : Int32 × PS → Prop} {r26 : Int32 → Int32 → Int32 → PS → Option (Int32 × PS)} (hr_26 : ∀ (x1 : Int32) (x2 : Int32) (x3 : Int32) (σ : PS), hO (r26 x1 x2 x3 σ) P → X g mX9_holds 1 0 0 (pI P) 26 [(0, .ref 132), (1, .int x1), (2, .int x2), (3, .int x3)] [] (HP σ)) (x1 : Int32) (x2 : Int32) (x3 : Int32) (σ : PS) (h : hO (fX9_holds_213 r26 x1 x2 x3 σ) P) : X g mX9_holds 1 0 0 (pI P) 213 [(0, .ref 132), (1, .int x1), (2, .int x2), (3, .int x3)] [] (HP σ) := by
  unfold fX9_holds_213 at h
  refine X_iinc 3 1 [(3, .int (x3 + 1)), (0, .ref 132), (1, .int x1), (2, .int x2)] (dk KX9_holds 117 rfl) rfl (by decide) (by decide) rfl ?_
  refine X_goto 26 (dk KX9_holds 118 rfl) (by decide) ?_
  refine X_sub [(0, .ref 132), (1, .int x1), (2, .int x2), (3, .int (x3 + 1))] [1, 2, 3, 0] rfl ?_
  exact hr_26 x1 x2 (x3 + 1) σ h
def fX9_holds_212 (r26 : Int32 → Int32 → Int32 → PS → Option (Int32 × PS)) (x1 : Int32) (x3 : Int32) (s0 : Int32) (σ : PS) : Option (Int32 × PS) := fX9_holds_213 r26 x1 s0 x3 σ
set_option maxRecDepth 100000 in
set_option maxHeartbeats 4000000 in
theorem tX9_holds_212 {P : Int32 × PS → Prop} {r26 : Int32 → Int32 → Int32 → PS → Option (Int32 × PS)} (hr_26 : ∀ (x1 : Int32) (x2 : Int32) (x3 : Int32) (σ : PS), hO (r26 x1 x2 x3 σ) P → X g mX9_holds 1 0 0 (pI P) 26 [(0, .ref 132), (1, .int x1), (2, .int x2), (3, .int x3)] [] (HP σ)) (x1 : Int32) (x3 : Int32) (s0 : Int32) (σ : PS) (h : hO (fX9_holds_212 r26 x1 x3 s0 σ) P) : X g mX9_holds 1 0 0 (pI P) 212 [(0, .ref 132), (1, .int x1), (3, .int x3)] [.int s0] (HP σ) := by
  unfold fX9_holds_212 at h
  refine X_istore_n [(2, .int s0), (0, .ref 132), (1, .int x1), (3, .int x3)] (dk KX9_holds 116 rfl) (by decide) rfl ?_
  refine X_sub [(0, .ref 132), (1, .int x1), (2, .int s0), (3, .int x3)] [1, 2, 0, 3] rfl ?_
  exact tX9_holds_213 hr_26 x1 s0 x3 σ h
def fX9_holds_76 (r26 : Int32 → Int32 → Int32 → PS → Option (Int32 × PS)) (x1 : Int32) (x2 : Int32) (x3 : Int32) (x4 : Int32) (σ : PS) : Option (Int32 × PS) := (if x2 = 0 then fX9_holds_213 r26 x1 x2 x3 σ else gd (inb x4 400) (gd (inb x4 400) ((fX9_value (gi σ 149 (x4 : Int32).toNatClampNeg) (gi σ 150 (x4 : Int32).toNatClampNeg) σ).bind (fun qy9 => (fun (y9 : Int32) (σ10 : PS) => gd (inb x4 400) (gd (inb x4 400) ((fX9_value (gi σ10 150 (x4 : Int32).toNatClampNeg) (gi σ10 151 (x4 : Int32).toNatClampNeg) σ10).bind (fun qy14 => (fun (y14 : Int32) (σ15 : PS) => gd (inb x4 400) ((if (gi σ15 148 (x4 : Int32).toNatClampNeg) = 0 then (if y9 = y14 then fX9_holds_212 r26 x1 x3 1 σ15 else fX9_holds_212 r26 x1 x3 0 σ15) else gd (inb x4 400) ((if (gi σ15 148 (x4 : Int32).toNatClampNeg) = 1 then (if y9 = y14 then fX9_holds_212 r26 x1 x3 0 σ15 else fX9_holds_212 r26 x1 x3 1 σ15) else gd (inb x4 400) ((if (gi σ15 148 (x4 : Int32).toNatClampNeg) = 2 then (if y14 ≤ y9 then fX9_holds_212 r26 x1 x3 0 σ15 else fX9_holds_212 r26 x1 x3 1 σ15) else (if y14 < y9 then fX9_holds_212 r26 x1 x3 0 σ15 else fX9_holds_212 r26 x1 x3 1 σ15)))))))) qy14.1 qy14.2)))) qy9.1 qy9.2))))
set_option maxRecDepth 100000 in
set_option maxHeartbeats 4000000 in
theorem tX9_holds_76 {P : Int32 × PS → Prop} {r26 : Int32 → Int32 → Int32 → PS → Option (Int32 × PS)} (hr_26 : ∀ (x1 : Int32) (x2 : Int32) (x3 : Int32) (σ : PS), hO (r26 x1 x2 x3 σ) P → X g mX9_holds 1 0 0 (pI P) 26 [(0, .ref 132), (1, .int x1), (2, .int x2), (3, .int x3)] [] (HP σ)) (x1 : Int32) (x2 : Int32) (x3 : Int32) (x4 : Int32) (σ : PS) (h : hO (fX9_holds_76 r26 x1 x2 x3 x4 σ) P) : X g mX9_holds 1 0 0 (pI P) 76 [(0, .ref 132), (1, .int x1), (2, .int x2), (3, .int x3), (4, .int x4)] [] (HP σ) := by
  unfold fX9_holds_76 at h
  refine X_iload_n 2 rfl (dk KX9_holds 47 rfl) ?_
  refine X_if_ne 83 (dk KX9_holds 48 rfl) (by decide) (fun hc => ?_) (fun hc => ?_)
  · have h := hO_f hc h
    refine X_aload_n 0 rfl (dk KX9_holds 50 rfl) ?_
    refine X_aload_n 0 rfl (dk KX9_holds 51 rfl) ?_
    refine Y_getR 149 fX9_67 (Nat.le_of_ble_eq_true rfl) rfl rfl (dk KX9_holds 52 rfl) ?_
    refine X_iload 4 rfl (dk KX9_holds 53 rfl) ?_
    refine Y_iald (Nat.le_of_ble_eq_true rfl) rfl (dk KX9_holds 54 rfl) h (fun hi7 h => ?_)
    refine X_aload_n 0 rfl (dk KX9_holds 55 rfl) ?_
    refine Y_getR 150 fX9_70 (Nat.le_of_ble_eq_true rfl) rfl rfl (dk KX9_holds 56 rfl) ?_
    refine X_iload 4 rfl (dk KX9_holds 57 rfl) ?_
    refine Y_iald (Nat.le_of_ble_eq_true rfl) rfl (dk KX9_holds 58 rfl) h (fun hi8 h => ?_)
    refine Y_callVI wX9_333 (Nat.le_of_ble_eq_true rfl) rfl [.int (gi σ 149 (x4 : Int32).toNatClampNeg), .int (gi σ 150 (x4 : Int32).toNatClampNeg)] [] rfl rfl (Nat.le_of_ble_eq_true rfl) (Nat.le_of_ble_eq_true rfl) (dk KX9_holds 59 rfl) (fun Pc h => okX9_value _ _ _ Pc h) h (fun y9 σ10 e11 h => ?_)
    try dsimp only at h
    refine X_istore [(5, .int y9), (0, .ref 132), (1, .int x1), (2, .int x2), (3, .int x3), (4, .int x4)] (dk KX9_holds 60 rfl) (by decide) rfl ?_
    refine X_aload_n 1 rfl (dk KX9_holds 61 rfl) ?_
    refine X_aload_n 1 rfl (dk KX9_holds 62 rfl) ?_
    refine Y_getR 150 fX9_70 (Nat.le_of_ble_eq_true rfl) rfl rfl (dk KX9_holds 63 rfl) ?_
    refine X_iload 5 rfl (dk KX9_holds 64 rfl) ?_
    refine Y_iald (Nat.le_of_ble_eq_true rfl) rfl (dk KX9_holds 65 rfl) h (fun hi12 h => ?_)
    refine X_aload_n 1 rfl (dk KX9_holds 66 rfl) ?_
    refine Y_getR 151 fX9_73 (Nat.le_of_ble_eq_true rfl) rfl rfl (dk KX9_holds 67 rfl) ?_
    refine X_iload 5 rfl (dk KX9_holds 68 rfl) ?_
    refine Y_iald (Nat.le_of_ble_eq_true rfl) rfl (dk KX9_holds 69 rfl) h (fun hi13 h => ?_)
    refine Y_callVI wX9_333 (Nat.le_of_ble_eq_true rfl) rfl [.int (gi σ10 150 (x4 : Int32).toNatClampNeg), .int (gi σ10 151 (x4 : Int32).toNatClampNeg)] [] rfl rfl (Nat.le_of_ble_eq_true rfl) (Nat.le_of_ble_eq_true rfl) (dk KX9_holds 70 rfl) (fun Pc h => okX9_value _ _ _ Pc h) h (fun y14 σ15 e16 h => ?_)
    try dsimp only at h
    refine X_istore [(6, .int y14), (5, .int y9), (0, .ref 132), (1, .int x1), (2, .int x2), (3, .int x3), (4, .int x4)] (dk KX9_holds 71 rfl) (by decide) rfl ?_
    refine X_aload_n 2 rfl (dk KX9_holds 72 rfl) ?_
    refine Y_getR 148 fX9_64 (Nat.le_of_ble_eq_true rfl) rfl rfl (dk KX9_holds 73 rfl) ?_
    refine X_iload 6 rfl (dk KX9_holds 74 rfl) ?_
    refine Y_iald (Nat.le_of_ble_eq_true rfl) rfl (dk KX9_holds 75 rfl) h (fun hi17 h => ?_)
    refine X_if_ne 148 (dk KX9_holds 76 rfl) (by decide) (fun hc => ?_) (fun hc => ?_)
    · have h := hO_f hc h
      refine X_aload_n 2 rfl (dk KX9_holds 84 rfl) ?_
      refine Y_getR 148 fX9_64 (Nat.le_of_ble_eq_true rfl) rfl rfl (dk KX9_holds 85 rfl) ?_
      refine X_iload 6 rfl (dk KX9_holds 86 rfl) ?_
      refine Y_iald (Nat.le_of_ble_eq_true rfl) rfl (dk KX9_holds 87 rfl) h (fun hi18 h => ?_)
      refine X_iconst (dk KX9_holds 88 rfl) 1 (by decide) ?_
      refine X_icmp_ne 174 (dk KX9_holds 89 rfl) (by decide) (fun hc => ?_) (fun hc => ?_)
      · have h := hO_f hc h
        refine X_aload_n 2 rfl (dk KX9_holds 97 rfl) ?_
        refine Y_getR 148 fX9_64 (Nat.le_of_ble_eq_true rfl) rfl rfl (dk KX9_holds 98 rfl) ?_
        refine X_iload 6 rfl (dk KX9_holds 99 rfl) ?_
        refine Y_iald (Nat.le_of_ble_eq_true rfl) rfl (dk KX9_holds 100 rfl) h (fun hi19 h => ?_)
        refine X_iconst (dk KX9_holds 101 rfl) 2 (by decide) ?_
        refine X_icmp_ne 200 (dk KX9_holds 102 rfl) (by decide) (fun hc => ?_) (fun hc => ?_)
        · have h := hO_f hc h
          refine X_iload 1 rfl (dk KX9_holds 110 rfl) ?_
          refine X_iload 0 rfl (dk KX9_holds 111 rfl) ?_
          refine X_icmp_gt 211 (dk KX9_holds 112 rfl) (by decide) (fun hc => ?_) (fun hc => ?_)
          · have h := hO_t hc h
            refine X_iconst (dk KX9_holds 115 rfl) 0 (by decide) ?_
            refine X_sub [(0, .ref 132), (1, .int x1), (3, .int x3)] [2, 3, 5] rfl ?_
            exact tX9_holds_212 hr_26 x1 x3 0 σ15 h
          · have h := hO_f hc h
            refine X_iconst (dk KX9_holds 113 rfl) 1 (by decide) ?_
            refine X_goto 212 (dk KX9_holds 114 rfl) (by decide) ?_
            refine X_sub [(0, .ref 132), (1, .int x1), (3, .int x3)] [2, 3, 5] rfl ?_
            exact tX9_holds_212 hr_26 x1 x3 1 σ15 h
        · have h := hO_t hc h
          refine X_iload 1 rfl (dk KX9_holds 103 rfl) ?_
          refine X_iload 0 rfl (dk KX9_holds 104 rfl) ?_
          refine X_icmp_ge 196 (dk KX9_holds 105 rfl) (by decide) (fun hc => ?_) (fun hc => ?_)
          · have h := hO_t hc h
            refine X_iconst (dk KX9_holds 108 rfl) 0 (by decide) ?_
            refine X_goto 212 (dk KX9_holds 109 rfl) (by decide) ?_
            refine X_sub [(0, .ref 132), (1, .int x1), (3, .int x3)] [2, 3, 5] rfl ?_
            exact tX9_holds_212 hr_26 x1 x3 0 σ15 h
          · have h := hO_f hc h
            refine X_iconst (dk KX9_holds 106 rfl) 1 (by decide) ?_
            refine X_goto 212 (dk KX9_holds 107 rfl) (by decide) ?_
            refine X_sub [(0, .ref 132), (1, .int x1), (3, .int x3)] [2, 3, 5] rfl ?_
            exact tX9_holds_212 hr_26 x1 x3 1 σ15 h
      · have h := hO_t hc h
        refine X_iload 1 rfl (dk KX9_holds 90 rfl) ?_
        refine X_iload 0 rfl (dk KX9_holds 91 rfl) ?_
        refine X_icmp_eq 170 (dk KX9_holds 92 rfl) (by decide) (fun hc => ?_) (fun hc => ?_)
        · have h := hO_t hc h
          refine X_iconst (dk KX9_holds 95 rfl) 0 (by decide) ?_
          refine X_goto 212 (dk KX9_holds 96 rfl) (by decide) ?_
          refine X_sub [(0, .ref 132), (1, .int x1), (3, .int x3)] [2, 3, 5] rfl ?_
          exact tX9_holds_212 hr_26 x1 x3 0 σ15 h
        · have h := hO_f hc h
          refine X_iconst (dk KX9_holds 93 rfl) 1 (by decide) ?_
          refine X_goto 212 (dk KX9_holds 94 rfl) (by decide) ?_
          refine X_sub [(0, .ref 132), (1, .int x1), (3, .int x3)] [2, 3, 5] rfl ?_
          exact tX9_holds_212 hr_26 x1 x3 1 σ15 h
    · have h := hO_t hc h
      refine X_iload 1 rfl (dk KX9_holds 77 rfl) ?_
      refine X_iload 0 rfl (dk KX9_holds 78 rfl) ?_
      refine X_icmp_ne 144 (dk KX9_holds 79 rfl) (by decide) (fun hc => ?_) (fun hc => ?_)
      · have h := hO_f hc h
        refine X_iconst (dk KX9_holds 82 rfl) 0 (by decide) ?_
        refine X_goto 212 (dk KX9_holds 83 rfl) (by decide) ?_
        refine X_sub [(0, .ref 132), (1, .int x1), (3, .int x3)] [2, 3, 5] rfl ?_
        exact tX9_holds_212 hr_26 x1 x3 0 σ15 h
      · have h := hO_t hc h
        refine X_iconst (dk KX9_holds 80 rfl) 1 (by decide) ?_
        refine X_goto 212 (dk KX9_holds 81 rfl) (by decide) ?_
        refine X_sub [(0, .ref 132), (1, .int x1), (3, .int x3)] [2, 3, 5] rfl ?_
        exact tX9_holds_212 hr_26 x1 x3 1 σ15 h
  · have h := hO_t hc h
    refine X_goto 213 (dk KX9_holds 49 rfl) (by decide) ?_
    refine X_sub [(0, .ref 132), (1, .int x1), (2, .int x2), (3, .int x3)] [0, 1, 2, 3] rfl ?_
    exact tX9_holds_213 hr_26 x1 x2 x3 σ h
def fX9_holds_64 (r26 : Int32 → Int32 → Int32 → PS → Option (Int32 × PS)) (x1 : Int32) (x2 : Int32) (x3 : Int32) (x4 : Int32) (σ : PS) : Option (Int32 × PS) := gd (inb x4 400) ((if (gi σ 152 (x4 : Int32).toNatClampNeg) = 0 then fX9_holds_76 r26 x1 x2 x3 x4 σ else fX9_holds_76 r26 x1 1 x3 x4 σ))
set_option maxRecDepth 100000 in
set_option maxHeartbeats 4000000 in
theorem tX9_holds_64 {P : Int32 × PS → Prop} {r26 : Int32 → Int32 → Int32 → PS → Option (Int32 × PS)} (hr_26 : ∀ (x1 : Int32) (x2 : Int32) (x3 : Int32) (σ : PS), hO (r26 x1 x2 x3 σ) P → X g mX9_holds 1 0 0 (pI P) 26 [(0, .ref 132), (1, .int x1), (2, .int x2), (3, .int x3)] [] (HP σ)) (x1 : Int32) (x2 : Int32) (x3 : Int32) (x4 : Int32) (σ : PS) (h : hO (fX9_holds_64 r26 x1 x2 x3 x4 σ) P) : X g mX9_holds 1 0 0 (pI P) 64 [(0, .ref 132), (1, .int x1), (2, .int x2), (3, .int x3), (4, .int x4)] [] (HP σ) := by
  unfold fX9_holds_64 at h
  refine X_aload_n 0 rfl (dk KX9_holds 40 rfl) ?_
  refine Y_getR 152 fX9_76 (Nat.le_of_ble_eq_true rfl) rfl rfl (dk KX9_holds 41 rfl) ?_
  refine X_iload 4 rfl (dk KX9_holds 42 rfl) ?_
  refine Y_zald (Nat.le_of_ble_eq_true rfl) rfl (dk KX9_holds 43 rfl) h (fun hi6 h => ?_)
  refine X_if_eq 76 (dk KX9_holds 44 rfl) (by decide) (fun hc => ?_) (fun hc => ?_)
  · have h := hO_t hc h
    exact tX9_holds_76 hr_26 x1 x2 x3 x4 σ h
  · have h := hO_f hc h
    refine X_iconst (dk KX9_holds 45 rfl) 1 (by decide) ?_
    refine X_istore_n [(2, .int 1), (0, .ref 132), (1, .int x1), (3, .int x3), (4, .int x4)] (dk KX9_holds 46 rfl) (by decide) rfl ?_
    refine X_sub [(0, .ref 132), (1, .int x1), (2, .int 1), (3, .int x3), (4, .int x4)] [1, 2, 0, 3, 4] rfl ?_
    exact tX9_holds_76 hr_26 x1 1 x3 x4 σ h
def fX9_holds_26 : Nat → Int32 → Int32 → Int32 → PS → Option (Int32 × PS)
  | 0, _, _, _, _ => none
  | n + 1, x1, x2, x3, σ => gd (inb x1 40) ((if (gi σ 146 (x1 : Int32).toNatClampNeg) ≤ x3 then gd (is01 x2) (some (x2, σ)) else gd (inb ((200 * (gi σ 132 18)) + x3) 400) ((if (gi σ 152 (((200 * (gi σ 132 18)) + x3) : Int32).toNatClampNeg) = 0 then fX9_holds_64 (fX9_holds_26 n) x1 x2 x3 ((200 * (gi σ 132 18)) + x3) σ else (if x2 = 0 then fX9_holds_64 (fX9_holds_26 n) x1 x2 x3 ((200 * (gi σ 132 18)) + x3) σ else some (1, σ))))))
set_option maxRecDepth 100000 in
set_option maxHeartbeats 4000000 in
theorem tX9_holds_26 {P : Int32 × PS → Prop} : ∀ (n : Nat) (x1 : Int32) (x2 : Int32) (x3 : Int32) (σ : PS), hO (fX9_holds_26 n x1 x2 x3 σ) P → X g mX9_holds 1 0 0 (pI P) 26 [(0, .ref 132), (1, .int x1), (2, .int x2), (3, .int x3)] [] (HP σ) := by
  intro n
  induction n with
  | zero =>
    intro x1 x2 x3 σ h
    rw [fX9_holds_26] at h
    exact (hO_none h).elim
  | succ n ih =>
    intro x1 x2 x3 σ h
    rw [fX9_holds_26] at h
    refine X_iload_n 3 rfl (dk KX9_holds 18 rfl) ?_
    refine X_aload_n 0 rfl (dk KX9_holds 19 rfl) ?_
    refine Y_getR 146 fX9_58 (Nat.le_of_ble_eq_true rfl) rfl rfl (dk KX9_holds 20 rfl) ?_
    refine X_iload_n 1 rfl (dk KX9_holds 21 rfl) ?_
    refine Y_iald (Nat.le_of_ble_eq_true rfl) rfl (dk KX9_holds 22 rfl) h (fun hi4 h => ?_)
    refine X_icmp_ge 219 (dk KX9_holds 23 rfl) (by decide) (fun hc => ?_) (fun hc => ?_)
    · have h := hO_t hc h
      refine X_iload_n 2 rfl (dk KX9_holds 119 rfl) ?_
      exact Y_zret (dk KX9_holds 120 rfl) rfl (hO_gd h).1 (hO_gd h).2
    · have h := hO_f hc h
      refine X_sipush (dk KX9_holds 24 rfl) 200 (by decide) ?_
      refine X_aload_n 0 rfl (dk KX9_holds 25 rfl) ?_
      refine Y_getI fX9_274 (Nat.le_of_ble_eq_true rfl) rfl (dk KX9_holds 26 rfl) ?_
      refine X_imul (dk KX9_holds 27 rfl) ?_
      refine X_iload_n 3 rfl (dk KX9_holds 28 rfl) ?_
      refine X_iadd (dk KX9_holds 29 rfl) ?_
      refine X_istore [(4, .int ((200 * (gi σ 132 18)) + x3)), (0, .ref 132), (1, .int x1), (2, .int x2), (3, .int x3)] (dk KX9_holds 30 rfl) (by decide) rfl ?_
      refine X_aload_n 1 rfl (dk KX9_holds 31 rfl) ?_
      refine Y_getR 152 fX9_76 (Nat.le_of_ble_eq_true rfl) rfl rfl (dk KX9_holds 32 rfl) ?_
      refine X_iload 0 rfl (dk KX9_holds 33 rfl) ?_
      refine Y_zald (Nat.le_of_ble_eq_true rfl) rfl (dk KX9_holds 34 rfl) h (fun hi5 h => ?_)
      refine X_if_eq 64 (dk KX9_holds 35 rfl) (by decide) (fun hc => ?_) (fun hc => ?_)
      · have h := hO_t hc h
        refine X_sub [(0, .ref 132), (1, .int x1), (2, .int x2), (3, .int x3), (4, .int ((200 * (gi σ 132 18)) + x3))] [1, 2, 3, 4, 0] rfl ?_
        exact tX9_holds_64 ih x1 x2 x3 ((200 * (gi σ 132 18)) + x3) σ h
      · have h := hO_f hc h
        refine X_iload_n 3 rfl (dk KX9_holds 36 rfl) ?_
        refine X_if_eq 64 (dk KX9_holds 37 rfl) (by decide) (fun hc => ?_) (fun hc => ?_)
        · have h := hO_t hc h
          refine X_sub [(0, .ref 132), (1, .int x1), (2, .int x2), (3, .int x3), (4, .int ((200 * (gi σ 132 18)) + x3))] [1, 2, 3, 4, 0] rfl ?_
          exact tX9_holds_64 ih x1 x2 x3 ((200 * (gi σ 132 18)) + x3) σ h
        · have h := hO_f hc h
          refine X_iconst (dk KX9_holds 38 rfl) 1 (by decide) ?_
          exact Y_zret (dk KX9_holds 39 rfl) rfl (by decide) h
def fX9_holds (a1 : Int32) (σ : PS) : Option (Int32 × PS) := gd (inb a1 40) (gd (inb a1 40) ((if (gi σ 145 (a1 : Int32).toNatClampNeg) = (gi σ 146 (a1 : Int32).toNatClampNeg) then some (1, σ) else gd (inb a1 40) (fX9_holds_26 FU a1 0 (gi σ 145 (a1 : Int32).toNatClampNeg) σ))))
set_option maxRecDepth 100000 in
set_option maxHeartbeats 4000000 in
theorem okX9_holds (a1 : Int32) (σ : PS) (P : Int32 × PS → Prop) (h : hO (fX9_holds a1 σ) P) : CON g mX9_holds 1 0 0 [.ref 132, .int a1] (HP σ) (pI P) := by
  refine CON.of (by decide) (by simp [lg_sl, Value.category]) ?_
  show X g _ _ _ _ _ 0 [(0, .ref 132), (1, .int a1)] [] _
  unfold fX9_holds at h
  refine X_aload_n 0 rfl (dk KX9_holds 0 rfl) ?_
  refine Y_getR 145 fX9_55 (Nat.le_of_ble_eq_true rfl) rfl rfl (dk KX9_holds 1 rfl) ?_
  refine X_iload_n 1 rfl (dk KX9_holds 2 rfl) ?_
  refine Y_iald (Nat.le_of_ble_eq_true rfl) rfl (dk KX9_holds 3 rfl) h (fun hi1 h => ?_)
  refine X_aload_n 0 rfl (dk KX9_holds 4 rfl) ?_
  refine Y_getR 146 fX9_58 (Nat.le_of_ble_eq_true rfl) rfl rfl (dk KX9_holds 5 rfl) ?_
  refine X_iload_n 1 rfl (dk KX9_holds 6 rfl) ?_
  refine Y_iald (Nat.le_of_ble_eq_true rfl) rfl (dk KX9_holds 7 rfl) h (fun hi2 h => ?_)
  refine X_icmp_ne 17 (dk KX9_holds 8 rfl) (by decide) (fun hc => ?_) (fun hc => ?_)
  · have h := hO_f hc h
    refine X_iconst (dk KX9_holds 11 rfl) 0 (by decide) ?_
    refine X_istore_n [(2, .int 0), (0, .ref 132), (1, .int a1)] (dk KX9_holds 12 rfl) (by decide) rfl ?_
    refine X_aload_n 1 rfl (dk KX9_holds 13 rfl) ?_
    refine Y_getR 145 fX9_55 (Nat.le_of_ble_eq_true rfl) rfl rfl (dk KX9_holds 14 rfl) ?_
    refine X_iload_n 2 rfl (dk KX9_holds 15 rfl) ?_
    refine Y_iald (Nat.le_of_ble_eq_true rfl) rfl (dk KX9_holds 16 rfl) h (fun hi3 h => ?_)
    refine X_istore_n [(3, .int (gi σ 145 (a1 : Int32).toNatClampNeg)), (2, .int 0), (0, .ref 132), (1, .int a1)] (dk KX9_holds 17 rfl) (by decide) rfl ?_
    refine X_sub [(0, .ref 132), (1, .int a1), (2, .int 0), (3, .int (gi σ 145 (a1 : Int32).toNatClampNeg))] [2, 3, 1, 0] rfl ?_
    exact tX9_holds_26 FU a1 0 (gi σ 145 (a1 : Int32).toNatClampNeg) σ h
  · have h := hO_t hc h
    refine X_iconst (dk KX9_holds 9 rfl) 1 (by decide) ?_
    exact Y_zret (dk KX9_holds 10 rfl) rfl (by decide) h

def fX9_says_74 (r8 : Int32 → Int32 → Int32 → PS → Option (Int32 × PS)) (x1 : Int32) (x2 : Int32) (x3 : Int32) (σ : PS) : Option (Int32 × PS) := r8 x1 x2 (x3 + 1) σ
set_option maxRecDepth 100000 in
set_option maxHeartbeats 4000000 in
theorem tX9_says_74 {P : Int32 × PS → Prop} {r8 : Int32 → Int32 → Int32 → PS → Option (Int32 × PS)} (hr_8 : ∀ (x1 : Int32) (x2 : Int32) (x3 : Int32) (σ : PS), hO (r8 x1 x2 x3 σ) P → X g mX9_says 2 0 0 (pI P) 8 [(0, .ref 132), (1, .int x1), (2, .int x2), (3, .int x3)] [] (HP σ)) (x1 : Int32) (x2 : Int32) (x3 : Int32) (σ : PS) (h : hO (fX9_says_74 r8 x1 x2 x3 σ) P) : X g mX9_says 2 0 0 (pI P) 74 [(0, .ref 132), (1, .int x1), (2, .int x2), (3, .int x3)] [] (HP σ) := by
  unfold fX9_says_74 at h
  refine X_iinc 3 1 [(3, .int (x3 + 1)), (0, .ref 132), (1, .int x1), (2, .int x2)] (dk KX9_says 44 rfl) rfl (by decide) (by decide) rfl ?_
  refine X_goto 8 (dk KX9_says 45 rfl) (by decide) ?_
  refine X_sub [(0, .ref 132), (1, .int x1), (2, .int x2), (3, .int (x3 + 1))] [1, 2, 3, 0] rfl ?_
  exact hr_8 x1 x2 (x3 + 1) σ h
def fX9_says_8 : Nat → Int32 → Int32 → Int32 → PS → Option (Int32 × PS)
  | 0, _, _, _, _ => none
  | n + 1, x1, x2, x3, σ => gd (inb (gi σ 132 18) 2) ((if ((20 * (gi σ 132 18)) + (gi σ 140 ((gi σ 132 18) : Int32).toNatClampNeg)) ≤ x3 then some (0, σ) else gd (inb x3 40) ((if (gi σ 141 (x3 : Int32).toNatClampNeg) = x1 then gd (inb x3 40) ((if (gi σ 142 (x3 : Int32).toNatClampNeg) = x2 then (fX9_holds x3 σ).bind (fun qy4 => (fun (y4 : Int32) (σ5 : PS) => (if y4 = 0 then fX9_says_74 (fX9_says_8 n) x1 x2 x3 σ5 else gd (inb x3 40) (gd (inb x3 40) ((fX9_value (gi σ5 143 (x3 : Int32).toNatClampNeg) (gi σ5 144 (x3 : Int32).toNatClampNeg) σ5).bind (fun qy9 => (fun (y9 : Int32) (σ10 : PS) => some (y9, σ10)) qy9.1 qy9.2))))) qy4.1 qy4.2) else fX9_says_74 (fX9_says_8 n) x1 x2 x3 σ)) else fX9_says_74 (fX9_says_8 n) x1 x2 x3 σ))))
set_option maxRecDepth 100000 in
set_option maxHeartbeats 4000000 in
theorem tX9_says_8 {P : Int32 × PS → Prop} : ∀ (n : Nat) (x1 : Int32) (x2 : Int32) (x3 : Int32) (σ : PS), hO (fX9_says_8 n x1 x2 x3 σ) P → X g mX9_says 2 0 0 (pI P) 8 [(0, .ref 132), (1, .int x1), (2, .int x2), (3, .int x3)] [] (HP σ) := by
  intro n
  induction n with
  | zero =>
    intro x1 x2 x3 σ h
    rw [fX9_says_8] at h
    exact (hO_none h).elim
  | succ n ih =>
    intro x1 x2 x3 σ h
    rw [fX9_says_8] at h
    refine X_iload_n 3 rfl (dk KX9_says 5 rfl) ?_
    refine X_bipush (dk KX9_says 6 rfl) 20 (by decide) ?_
    refine X_aload_n 0 rfl (dk KX9_says 7 rfl) ?_
    refine Y_getI fX9_274 (Nat.le_of_ble_eq_true rfl) rfl (dk KX9_says 8 rfl) ?_
    refine X_imul (dk KX9_says 9 rfl) ?_
    refine X_aload_n 0 rfl (dk KX9_says 10 rfl) ?_
    refine Y_getR 140 fX9_40 (Nat.le_of_ble_eq_true rfl) rfl rfl (dk KX9_says 11 rfl) ?_
    refine X_aload_n 0 rfl (dk KX9_says 12 rfl) ?_
    refine Y_getI fX9_274 (Nat.le_of_ble_eq_true rfl) rfl (dk KX9_says 13 rfl) ?_
    refine Y_iald (Nat.le_of_ble_eq_true rfl) rfl (dk KX9_says 14 rfl) h (fun hi1 h => ?_)
    refine X_iadd (dk KX9_says 15 rfl) ?_
    refine X_icmp_ge 80 (dk KX9_says 16 rfl) (by decide) (fun hc => ?_) (fun hc => ?_)
    · have h := hO_t hc h
      refine X_iconst (dk KX9_says 46 rfl) 0 (by decide) ?_
      exact Y_iret (dk KX9_says 47 rfl) rfl h
    · have h := hO_f hc h
      refine X_aload_n 0 rfl (dk KX9_says 17 rfl) ?_
      refine Y_getR 141 fX9_43 (Nat.le_of_ble_eq_true rfl) rfl rfl (dk KX9_says 18 rfl) ?_
      refine X_iload_n 3 rfl (dk KX9_says 19 rfl) ?_
      refine Y_iald (Nat.le_of_ble_eq_true rfl) rfl (dk KX9_says 20 rfl) h (fun hi2 h => ?_)
      refine X_iload_n 1 rfl (dk KX9_says 21 rfl) ?_
      refine X_icmp_ne 74 (dk KX9_says 22 rfl) (by decide) (fun hc => ?_) (fun hc => ?_)
      · have h := hO_f hc h
        exact tX9_says_74 ih x1 x2 x3 σ h
      · have h := hO_t hc h
        refine X_aload_n 0 rfl (dk KX9_says 23 rfl) ?_
        refine Y_getR 142 fX9_46 (Nat.le_of_ble_eq_true rfl) rfl rfl (dk KX9_says 24 rfl) ?_
        refine X_iload_n 3 rfl (dk KX9_says 25 rfl) ?_
        refine Y_iald (Nat.le_of_ble_eq_true rfl) rfl (dk KX9_says 26 rfl) h (fun hi3 h => ?_)
        refine X_iload_n 2 rfl (dk KX9_says 27 rfl) ?_
        refine X_icmp_ne 74 (dk KX9_says 28 rfl) (by decide) (fun hc => ?_) (fun hc => ?_)
        · have h := hO_f hc h
          exact tX9_says_74 ih x1 x2 x3 σ h
        · have h := hO_t hc h
          refine X_aload_n 0 rfl (dk KX9_says 29 rfl) ?_
          refine X_iload_n 3 rfl (dk KX9_says 30 rfl) ?_
          refine Y_callVI wX9_337 (Nat.le_of_ble_eq_true rfl) rfl [.int x3] [] rfl rfl (Nat.le_of_ble_eq_true rfl) (Nat.le_of_ble_eq_true rfl) (dk KX9_says 31 rfl) (fun Pc h => okX9_holds _ _ Pc h) h (fun y4 σ5 e6 h => ?_)
          try dsimp only at h
          refine X_if_eq 74 (dk KX9_says 32 rfl) (by decide) (fun hc => ?_) (fun hc => ?_)
          · have h := hO_t hc h
            exact tX9_says_74 ih x1 x2 x3 σ5 h
          · have h := hO_f hc h
            refine X_aload_n 0 rfl (dk KX9_says 33 rfl) ?_
            refine X_aload_n 0 rfl (dk KX9_says 34 rfl) ?_
            refine Y_getR 143 fX9_49 (Nat.le_of_ble_eq_true rfl) rfl rfl (dk KX9_says 35 rfl) ?_
            refine X_iload_n 3 rfl (dk KX9_says 36 rfl) ?_
            refine Y_iald (Nat.le_of_ble_eq_true rfl) rfl (dk KX9_says 37 rfl) h (fun hi7 h => ?_)
            refine X_aload_n 0 rfl (dk KX9_says 38 rfl) ?_
            refine Y_getR 144 fX9_52 (Nat.le_of_ble_eq_true rfl) rfl rfl (dk KX9_says 39 rfl) ?_
            refine X_iload_n 3 rfl (dk KX9_says 40 rfl) ?_
            refine Y_iald (Nat.le_of_ble_eq_true rfl) rfl (dk KX9_says 41 rfl) h (fun hi8 h => ?_)
            refine Y_callVI wX9_333 (Nat.le_of_ble_eq_true rfl) rfl [.int (gi σ5 143 (x3 : Int32).toNatClampNeg), .int (gi σ5 144 (x3 : Int32).toNatClampNeg)] [] rfl rfl (Nat.le_of_ble_eq_true rfl) (Nat.le_of_ble_eq_true rfl) (dk KX9_says 42 rfl) (fun Pc h => okX9_value _ _ _ Pc h) h (fun y9 σ10 e11 h => ?_)
            try dsimp only at h
            exact Y_iret (dk KX9_says 43 rfl) rfl h
def fX9_says (a1 : Int32) (a2 : Int32) (σ : PS) : Option (Int32 × PS) := fX9_says_8 FU a1 a2 (20 * (gi σ 132 18)) σ
set_option maxRecDepth 100000 in
set_option maxHeartbeats 4000000 in
theorem okX9_says (a1 : Int32) (a2 : Int32) (σ : PS) (P : Int32 × PS → Prop) (h : hO (fX9_says a1 a2 σ) P) : CON g mX9_says 2 0 0 [.ref 132, .int a1, .int a2] (HP σ) (pI P) := by
  refine CON.of (by decide) (by simp [lg_sl, Value.category]) ?_
  show X g _ _ _ _ _ 0 [(0, .ref 132), (1, .int a1), (2, .int a2)] [] _
  unfold fX9_says at h
  refine X_bipush (dk KX9_says 0 rfl) 20 (by decide) ?_
  refine X_aload_n 0 rfl (dk KX9_says 1 rfl) ?_
  refine Y_getI fX9_274 (Nat.le_of_ble_eq_true rfl) rfl (dk KX9_says 2 rfl) ?_
  refine X_imul (dk KX9_says 3 rfl) ?_
  refine X_istore_n [(3, .int (20 * (gi σ 132 18))), (0, .ref 132), (1, .int a1), (2, .int a2)] (dk KX9_says 4 rfl) (by decide) rfl ?_
  refine X_sub [(0, .ref 132), (1, .int a1), (2, .int a2), (3, .int (20 * (gi σ 132 18)))] [1, 2, 3, 0] rfl ?_
  exact tX9_says_8 FU a1 a2 (20 * (gi σ 132 18)) σ h

def fX9_barOf_69 (r2 : Int32 → Int32 → PS → Option (Int32 × PS)) (x1 : Int32) (x2 : Int32) (σ : PS) : Option (Int32 × PS) := r2 x1 (x2 + 1) σ
set_option maxRecDepth 100000 in
set_option maxHeartbeats 4000000 in
theorem tX9_barOf_69 {P : Int32 × PS → Prop} {r2 : Int32 → Int32 → PS → Option (Int32 × PS)} (hr_2 : ∀ (x1 : Int32) (x2 : Int32) (σ : PS), hO (r2 x1 x2 σ) P → X g mX9_barOf 2 0 0 (pI P) 2 [(0, .ref 132), (1, .int x1), (2, .int x2)] [] (HP σ)) (x1 : Int32) (x2 : Int32) (σ : PS) (h : hO (fX9_barOf_69 r2 x1 x2 σ) P) : X g mX9_barOf 2 0 0 (pI P) 69 [(0, .ref 132), (1, .int x1), (2, .int x2)] [] (HP σ) := by
  unfold fX9_barOf_69 at h
  refine X_iinc 2 1 [(2, .int (x2 + 1)), (0, .ref 132), (1, .int x1)] (dk KX9_barOf 42 rfl) rfl (by decide) (by decide) rfl ?_
  refine X_goto 2 (dk KX9_barOf 43 rfl) (by decide) ?_
  refine X_sub [(0, .ref 132), (1, .int x1), (2, .int (x2 + 1))] [1, 2, 0] rfl ?_
  exact hr_2 x1 (x2 + 1) σ h
def fX9_barOf_2 : Nat → Int32 → Int32 → PS → Option (Int32 × PS)
  | 0, _, _, _ => none
  | n + 1, x1, x2, σ => gd (inb (gi σ 132 18) 2) ((if (gi σ 140 ((gi σ 132 18) : Int32).toNatClampNeg) ≤ x2 then some ((-1), σ) else gd (inb ((20 * (gi σ 132 18)) + x2) 40) ((if (gi σ 141 (((20 * (gi σ 132 18)) + x2) : Int32).toNatClampNeg) = 2 then gd (inb ((20 * (gi σ 132 18)) + x2) 40) ((if (gi σ 142 (((20 * (gi σ 132 18)) + x2) : Int32).toNatClampNeg) = x1 then (fX9_holds ((20 * (gi σ 132 18)) + x2) σ).bind (fun qy4 => (fun (y4 : Int32) (σ5 : PS) => (if y4 = 0 then fX9_barOf_69 (fX9_barOf_2 n) x1 x2 σ5 else some (x2, σ5))) qy4.1 qy4.2) else fX9_barOf_69 (fX9_barOf_2 n) x1 x2 σ)) else fX9_barOf_69 (fX9_barOf_2 n) x1 x2 σ))))
set_option maxRecDepth 100000 in
set_option maxHeartbeats 4000000 in
theorem tX9_barOf_2 {P : Int32 × PS → Prop} : ∀ (n : Nat) (x1 : Int32) (x2 : Int32) (σ : PS), hO (fX9_barOf_2 n x1 x2 σ) P → X g mX9_barOf 2 0 0 (pI P) 2 [(0, .ref 132), (1, .int x1), (2, .int x2)] [] (HP σ) := by
  intro n
  induction n with
  | zero =>
    intro x1 x2 σ h
    rw [fX9_barOf_2] at h
    exact (hO_none h).elim
  | succ n ih =>
    intro x1 x2 σ h
    rw [fX9_barOf_2] at h
    refine X_iload_n 2 rfl (dk KX9_barOf 2 rfl) ?_
    refine X_aload_n 0 rfl (dk KX9_barOf 3 rfl) ?_
    refine Y_getR 140 fX9_40 (Nat.le_of_ble_eq_true rfl) rfl rfl (dk KX9_barOf 4 rfl) ?_
    refine X_aload_n 0 rfl (dk KX9_barOf 5 rfl) ?_
    refine Y_getI fX9_274 (Nat.le_of_ble_eq_true rfl) rfl (dk KX9_barOf 6 rfl) ?_
    refine Y_iald (Nat.le_of_ble_eq_true rfl) rfl (dk KX9_barOf 7 rfl) h (fun hi1 h => ?_)
    refine X_icmp_ge 75 (dk KX9_barOf 8 rfl) (by decide) (fun hc => ?_) (fun hc => ?_)
    · have h := hO_t hc h
      refine X_iconst (dk KX9_barOf 44 rfl) (-1) (by decide) ?_
      exact Y_iret (dk KX9_barOf 45 rfl) rfl h
    · have h := hO_f hc h
      refine X_aload_n 0 rfl (dk KX9_barOf 9 rfl) ?_
      refine Y_getR 141 fX9_43 (Nat.le_of_ble_eq_true rfl) rfl rfl (dk KX9_barOf 10 rfl) ?_
      refine X_bipush (dk KX9_barOf 11 rfl) 20 (by decide) ?_
      refine X_aload_n 0 rfl (dk KX9_barOf 12 rfl) ?_
      refine Y_getI fX9_274 (Nat.le_of_ble_eq_true rfl) rfl (dk KX9_barOf 13 rfl) ?_
      refine X_imul (dk KX9_barOf 14 rfl) ?_
      refine X_iload_n 2 rfl (dk KX9_barOf 15 rfl) ?_
      refine X_iadd (dk KX9_barOf 16 rfl) ?_
      refine Y_iald (Nat.le_of_ble_eq_true rfl) rfl (dk KX9_barOf 17 rfl) h (fun hi2 h => ?_)
      refine X_iconst (dk KX9_barOf 18 rfl) 2 (by decide) ?_
      refine X_icmp_ne 69 (dk KX9_barOf 19 rfl) (by decide) (fun hc => ?_) (fun hc => ?_)
      · have h := hO_f hc h
        exact tX9_barOf_69 ih x1 x2 σ h
      · have h := hO_t hc h
        refine X_aload_n 0 rfl (dk KX9_barOf 20 rfl) ?_
        refine Y_getR 142 fX9_46 (Nat.le_of_ble_eq_true rfl) rfl rfl (dk KX9_barOf 21 rfl) ?_
        refine X_bipush (dk KX9_barOf 22 rfl) 20 (by decide) ?_
        refine X_aload_n 0 rfl (dk KX9_barOf 23 rfl) ?_
        refine Y_getI fX9_274 (Nat.le_of_ble_eq_true rfl) rfl (dk KX9_barOf 24 rfl) ?_
        refine X_imul (dk KX9_barOf 25 rfl) ?_
        refine X_iload_n 2 rfl (dk KX9_barOf 26 rfl) ?_
        refine X_iadd (dk KX9_barOf 27 rfl) ?_
        refine Y_iald (Nat.le_of_ble_eq_true rfl) rfl (dk KX9_barOf 28 rfl) h (fun hi3 h => ?_)
        refine X_iload_n 1 rfl (dk KX9_barOf 29 rfl) ?_
        refine X_icmp_ne 69 (dk KX9_barOf 30 rfl) (by decide) (fun hc => ?_) (fun hc => ?_)
        · have h := hO_f hc h
          exact tX9_barOf_69 ih x1 x2 σ h
        · have h := hO_t hc h
          refine X_aload_n 0 rfl (dk KX9_barOf 31 rfl) ?_
          refine X_bipush (dk KX9_barOf 32 rfl) 20 (by decide) ?_
          refine X_aload_n 0 rfl (dk KX9_barOf 33 rfl) ?_
          refine Y_getI fX9_274 (Nat.le_of_ble_eq_true rfl) rfl (dk KX9_barOf 34 rfl) ?_
          refine X_imul (dk KX9_barOf 35 rfl) ?_
          refine X_iload_n 2 rfl (dk KX9_barOf 36 rfl) ?_
          refine X_iadd (dk KX9_barOf 37 rfl) ?_
          refine Y_callVI wX9_337 (Nat.le_of_ble_eq_true rfl) rfl [.int ((20 * (gi σ 132 18)) + x2)] [] rfl rfl (Nat.le_of_ble_eq_true rfl) (Nat.le_of_ble_eq_true rfl) (dk KX9_barOf 38 rfl) (fun Pc h => okX9_holds _ _ Pc h) h (fun y4 σ5 e6 h => ?_)
          try dsimp only at h
          refine X_if_eq 69 (dk KX9_barOf 39 rfl) (by decide) (fun hc => ?_) (fun hc => ?_)
          · have h := hO_t hc h
            exact tX9_barOf_69 ih x1 x2 σ5 h
          · have h := hO_f hc h
            refine X_iload_n 2 rfl (dk KX9_barOf 40 rfl) ?_
            exact Y_iret (dk KX9_barOf 41 rfl) rfl h
def fX9_barOf (a1 : Int32) (σ : PS) : Option (Int32 × PS) := fX9_barOf_2 FU a1 0 σ
set_option maxRecDepth 100000 in
set_option maxHeartbeats 4000000 in
theorem okX9_barOf (a1 : Int32) (σ : PS) (P : Int32 × PS → Prop) (h : hO (fX9_barOf a1 σ) P) : CON g mX9_barOf 2 0 0 [.ref 132, .int a1] (HP σ) (pI P) := by
  refine CON.of (by decide) (by simp [lg_sl, Value.category]) ?_
  show X g _ _ _ _ _ 0 [(0, .ref 132), (1, .int a1)] [] _
  unfold fX9_barOf at h
  refine X_iconst (dk KX9_barOf 0 rfl) 0 (by decide) ?_
  refine X_istore_n [(2, .int 0), (0, .ref 132), (1, .int a1)] (dk KX9_barOf 1 rfl) (by decide) rfl ?_
  refine X_sub [(0, .ref 132), (1, .int a1), (2, .int 0)] [1, 2, 0] rfl ?_
  exact tX9_barOf_2 FU a1 0 σ h

def fX9_isAhead_91 : Nat → Int32 → Int32 → PS → Option (Int32 × PS)
  | 0, _, _, _ => none
  | n + 1, x2, x3, σ => (if x2 ≤ x3 then some (0, σ) else gd (inb x3 6) (gd (inb x3 6) ((if (gi σ 190 (x3 : Int32).toNatClampNeg) = (gi σ 191 (x3 : Int32).toNatClampNeg) then fX9_isAhead_91 n x2 (x3 + 1) σ else gd (inb x3 6) (gd (inb x3 6) ((if (gi σ 191 (x3 : Int32).toNatClampNeg) ≤ (gi σ 190 (x3 : Int32).toNatClampNeg) then some (0, σ) else some (1, σ))))))))
set_option maxRecDepth 100000 in
set_option maxHeartbeats 4000000 in
theorem tX9_isAhead_91 {P : Int32 × PS → Prop} : ∀ (n : Nat) (x2 : Int32) (x3 : Int32) (σ : PS), hO (fX9_isAhead_91 n x2 x3 σ) P → X g mX9_isAhead 0 0 0 (pI P) 91 [(0, .ref 132), (2, .int x2), (3, .int x3)] [] (HP σ) := by
  intro n
  induction n with
  | zero =>
    intro x2 x3 σ h
    rw [fX9_isAhead_91] at h
    exact (hO_none h).elim
  | succ n ih =>
    intro x2 x3 σ h
    rw [fX9_isAhead_91] at h
    refine X_iload_n 2 rfl (dk KX9_isAhead 55 rfl) ?_
    refine X_iload_n 1 rfl (dk KX9_isAhead 56 rfl) ?_
    refine X_icmp_ge 138 (dk KX9_isAhead 57 rfl) (by decide) (fun hc => ?_) (fun hc => ?_)
    · have h := hO_t hc h
      refine X_iconst (dk KX9_isAhead 82 rfl) 0 (by decide) ?_
      exact Y_zret (dk KX9_isAhead 83 rfl) rfl (by decide) h
    · have h := hO_f hc h
      refine X_aload_n 0 rfl (dk KX9_isAhead 58 rfl) ?_
      refine Y_getR 190 fX9_194 (Nat.le_of_ble_eq_true rfl) rfl rfl (dk KX9_isAhead 59 rfl) ?_
      refine X_iload_n 2 rfl (dk KX9_isAhead 60 rfl) ?_
      refine Y_iald (Nat.le_of_ble_eq_true rfl) rfl (dk KX9_isAhead 61 rfl) h (fun hi6 h => ?_)
      refine X_aload_n 0 rfl (dk KX9_isAhead 62 rfl) ?_
      refine Y_getR 191 fX9_197 (Nat.le_of_ble_eq_true rfl) rfl rfl (dk KX9_isAhead 63 rfl) ?_
      refine X_iload_n 2 rfl (dk KX9_isAhead 64 rfl) ?_
      refine Y_iald (Nat.le_of_ble_eq_true rfl) rfl (dk KX9_isAhead 65 rfl) h (fun hi7 h => ?_)
      refine X_icmp_eq 132 (dk KX9_isAhead 66 rfl) (by decide) (fun hc => ?_) (fun hc => ?_)
      · have h := hO_t hc h
        refine X_iinc 2 1 [(3, .int (x3 + 1)), (0, .ref 132), (2, .int x2)] (dk KX9_isAhead 80 rfl) rfl (by decide) (by decide) rfl ?_
        refine X_goto 91 (dk KX9_isAhead 81 rfl) (by decide) ?_
        refine X_sub [(0, .ref 132), (2, .int x2), (3, .int (x3 + 1))] [1, 2, 0] rfl ?_
        exact ih x2 (x3 + 1) σ h
      · have h := hO_f hc h
        refine X_aload_n 0 rfl (dk KX9_isAhead 67 rfl) ?_
        refine Y_getR 190 fX9_194 (Nat.le_of_ble_eq_true rfl) rfl rfl (dk KX9_isAhead 68 rfl) ?_
        refine X_iload_n 2 rfl (dk KX9_isAhead 69 rfl) ?_
        refine Y_iald (Nat.le_of_ble_eq_true rfl) rfl (dk KX9_isAhead 70 rfl) h (fun hi8 h => ?_)
        refine X_aload_n 0 rfl (dk KX9_isAhead 71 rfl) ?_
        refine Y_getR 191 fX9_197 (Nat.le_of_ble_eq_true rfl) rfl rfl (dk KX9_isAhead 72 rfl) ?_
        refine X_iload_n 2 rfl (dk KX9_isAhead 73 rfl) ?_
        refine Y_iald (Nat.le_of_ble_eq_true rfl) rfl (dk KX9_isAhead 74 rfl) h (fun hi9 h => ?_)
        refine X_icmp_ge 130 (dk KX9_isAhead 75 rfl) (by decide) (fun hc => ?_) (fun hc => ?_)
        · have h := hO_t hc h
          refine X_iconst (dk KX9_isAhead 78 rfl) 0 (by decide) ?_
          exact Y_zret (dk KX9_isAhead 79 rfl) rfl (by decide) h
        · have h := hO_f hc h
          refine X_iconst (dk KX9_isAhead 76 rfl) 1 (by decide) ?_
          refine X_goto 131 (dk KX9_isAhead 77 rfl) (by decide) ?_
          exact Y_zret (dk KX9_isAhead 79 rfl) rfl (by decide) h
def fX9_isAhead_59 (r14 : Int32 → Int32 → Int32 → PS → Option (Int32 × PS)) (x1 : Int32) (x2 : Int32) (x3 : Int32) (s0 : Int32) (s1 : Int32) (σ : PS) : Option (Int32 × PS) := (if s0 = s1 then r14 x1 x2 (x3 + 1) σ else gd (inb x3 6) (gd (inb x1 8) ((if (gi σ 190 (x3 : Int32).toNatClampNeg) = (gi σ 159 (x1 : Int32).toNatClampNeg) then some (0, σ) else some (1, σ)))))
set_option maxRecDepth 100000 in
set_option maxHeartbeats 4000000 in
theorem tX9_isAhead_59 {P : Int32 × PS → Prop} {r14 : Int32 → Int32 → Int32 → PS → Option (Int32 × PS)} (hr_14 : ∀ (x1 : Int32) (x2 : Int32) (x3 : Int32) (σ : PS), hO (r14 x1 x2 x3 σ) P → X g mX9_isAhead 0 0 0 (pI P) 14 [(0, .ref 132), (1, .int x1), (2, .int x2), (3, .int x3)] [] (HP σ)) (x1 : Int32) (x2 : Int32) (x3 : Int32) (s0 : Int32) (s1 : Int32) (σ : PS) (h : hO (fX9_isAhead_59 r14 x1 x2 x3 s0 s1 σ) P) : X g mX9_isAhead 0 0 0 (pI P) 59 [(0, .ref 132), (1, .int x1), (2, .int x2), (3, .int x3)] [.int s1, .int s0] (HP σ) := by
  unfold fX9_isAhead_59 at h
  refine X_icmp_eq 83 (dk KX9_isAhead 37 rfl) (by decide) (fun hc => ?_) (fun hc => ?_)
  · have h := hO_t hc h
    refine X_iinc 3 1 [(3, .int (x3 + 1)), (0, .ref 132), (1, .int x1), (2, .int x2)] (dk KX9_isAhead 51 rfl) rfl (by decide) (by decide) rfl ?_
    refine X_goto 14 (dk KX9_isAhead 52 rfl) (by decide) ?_
    refine X_sub [(0, .ref 132), (1, .int x1), (2, .int x2), (3, .int (x3 + 1))] [1, 2, 3, 0] rfl ?_
    exact hr_14 x1 x2 (x3 + 1) σ h
  · have h := hO_f hc h
    refine X_aload_n 0 rfl (dk KX9_isAhead 38 rfl) ?_
    refine Y_getR 190 fX9_194 (Nat.le_of_ble_eq_true rfl) rfl rfl (dk KX9_isAhead 39 rfl) ?_
    refine X_iload_n 3 rfl (dk KX9_isAhead 40 rfl) ?_
    refine Y_iald (Nat.le_of_ble_eq_true rfl) rfl (dk KX9_isAhead 41 rfl) h (fun hi10 h => ?_)
    refine X_aload_n 0 rfl (dk KX9_isAhead 42 rfl) ?_
    refine Y_getR 159 fX9_98 (Nat.le_of_ble_eq_true rfl) rfl rfl (dk KX9_isAhead 43 rfl) ?_
    refine X_iload_n 1 rfl (dk KX9_isAhead 44 rfl) ?_
    refine Y_iald (Nat.le_of_ble_eq_true rfl) rfl (dk KX9_isAhead 45 rfl) h (fun hi11 h => ?_)
    refine X_icmp_eq 81 (dk KX9_isAhead 46 rfl) (by decide) (fun hc => ?_) (fun hc => ?_)
    · have h := hO_t hc h
      refine X_iconst (dk KX9_isAhead 49 rfl) 0 (by decide) ?_
      exact Y_zret (dk KX9_isAhead 50 rfl) rfl (by decide) h
    · have h := hO_f hc h
      refine X_iconst (dk KX9_isAhead 47 rfl) 1 (by decide) ?_
      refine X_goto 82 (dk KX9_isAhead 48 rfl) (by decide) ?_
      exact Y_zret (dk KX9_isAhead 50 rfl) rfl (by decide) h
def fX9_isAhead_39 (r14 : Int32 → Int32 → Int32 → PS → Option (Int32 × PS)) (x1 : Int32) (x2 : Int32) (x3 : Int32) (s0 : Int32) (σ : PS) : Option (Int32 × PS) := gd (inb x3 6) (gd (inb x1 8) ((if (gi σ 191 (x3 : Int32).toNatClampNeg) = (gi σ 159 (x1 : Int32).toNatClampNeg) then fX9_isAhead_59 r14 x1 x2 x3 s0 1 σ else fX9_isAhead_59 r14 x1 x2 x3 s0 0 σ)))
set_option maxRecDepth 100000 in
set_option maxHeartbeats 4000000 in
theorem tX9_isAhead_39 {P : Int32 × PS → Prop} {r14 : Int32 → Int32 → Int32 → PS → Option (Int32 × PS)} (hr_14 : ∀ (x1 : Int32) (x2 : Int32) (x3 : Int32) (σ : PS), hO (r14 x1 x2 x3 σ) P → X g mX9_isAhead 0 0 0 (pI P) 14 [(0, .ref 132), (1, .int x1), (2, .int x2), (3, .int x3)] [] (HP σ)) (x1 : Int32) (x2 : Int32) (x3 : Int32) (s0 : Int32) (σ : PS) (h : hO (fX9_isAhead_39 r14 x1 x2 x3 s0 σ) P) : X g mX9_isAhead 0 0 0 (pI P) 39 [(0, .ref 132), (1, .int x1), (2, .int x2), (3, .int x3)] [.int s0] (HP σ) := by
  unfold fX9_isAhead_39 at h
  refine X_aload_n 0 rfl (dk KX9_isAhead 25 rfl) ?_
  refine Y_getR 191 fX9_197 (Nat.le_of_ble_eq_true rfl) rfl rfl (dk KX9_isAhead 26 rfl) ?_
  refine X_iload_n 3 rfl (dk KX9_isAhead 27 rfl) ?_
  refine Y_iald (Nat.le_of_ble_eq_true rfl) rfl (dk KX9_isAhead 28 rfl) h (fun hi4 h => ?_)
  refine X_aload_n 0 rfl (dk KX9_isAhead 29 rfl) ?_
  refine Y_getR 159 fX9_98 (Nat.le_of_ble_eq_true rfl) rfl rfl (dk KX9_isAhead 30 rfl) ?_
  refine X_iload_n 1 rfl (dk KX9_isAhead 31 rfl) ?_
  refine Y_iald (Nat.le_of_ble_eq_true rfl) rfl (dk KX9_isAhead 32 rfl) h (fun hi5 h => ?_)
  refine X_icmp_ne 58 (dk KX9_isAhead 33 rfl) (by decide) (fun hc => ?_) (fun hc => ?_)
  · have h := hO_f hc h
    refine X_iconst (dk KX9_isAhead 36 rfl) 0 (by decide) ?_
    exact tX9_isAhead_59 hr_14 x1 x2 x3 s0 0 σ h
  · have h := hO_t hc h
    refine X_iconst (dk KX9_isAhead 34 rfl) 1 (by decide) ?_
    refine X_goto 59 (dk KX9_isAhead 35 rfl) (by decide) ?_
    exact tX9_isAhead_59 hr_14 x1 x2 x3 s0 1 σ h
def fX9_isAhead_14 : Nat → Int32 → Int32 → Int32 → PS → Option (Int32 × PS)
  | 0, _, _, _, _ => none
  | n + 1, x1, x2, x3, σ => (if x2 ≤ x3 then fX9_isAhead_91 FU x2 0 σ else gd (inb x3 6) (gd (inb x1 8) ((if (gi σ 190 (x3 : Int32).toNatClampNeg) = (gi σ 159 (x1 : Int32).toNatClampNeg) then fX9_isAhead_39 (fX9_isAhead_14 n) x1 x2 x3 1 σ else fX9_isAhead_39 (fX9_isAhead_14 n) x1 x2 x3 0 σ))))
set_option maxRecDepth 100000 in
set_option maxHeartbeats 4000000 in
theorem tX9_isAhead_14 {P : Int32 × PS → Prop} : ∀ (n : Nat) (x1 : Int32) (x2 : Int32) (x3 : Int32) (σ : PS), hO (fX9_isAhead_14 n x1 x2 x3 σ) P → X g mX9_isAhead 0 0 0 (pI P) 14 [(0, .ref 132), (1, .int x1), (2, .int x2), (3, .int x3)] [] (HP σ) := by
  intro n
  induction n with
  | zero =>
    intro x1 x2 x3 σ h
    rw [fX9_isAhead_14] at h
    exact (hO_none h).elim
  | succ n ih =>
    intro x1 x2 x3 σ h
    rw [fX9_isAhead_14] at h
    refine X_iload_n 3 rfl (dk KX9_isAhead 10 rfl) ?_
    refine X_iload_n 2 rfl (dk KX9_isAhead 11 rfl) ?_
    refine X_icmp_ge 89 (dk KX9_isAhead 12 rfl) (by decide) (fun hc => ?_) (fun hc => ?_)
    · have h := hO_t hc h
      refine X_iconst (dk KX9_isAhead 53 rfl) 0 (by decide) ?_
      refine X_istore_n [(3, .int 0), (0, .ref 132), (1, .int x1), (2, .int x2)] (dk KX9_isAhead 54 rfl) (by decide) rfl ?_
      refine X_sub [(0, .ref 132), (2, .int x2), (3, .int 0)] [1, 3, 0] rfl ?_
      exact tX9_isAhead_91 FU x2 0 σ h
    · have h := hO_f hc h
      refine X_aload_n 0 rfl (dk KX9_isAhead 13 rfl) ?_
      refine Y_getR 190 fX9_194 (Nat.le_of_ble_eq_true rfl) rfl rfl (dk KX9_isAhead 14 rfl) ?_
      refine X_iload_n 3 rfl (dk KX9_isAhead 15 rfl) ?_
      refine Y_iald (Nat.le_of_ble_eq_true rfl) rfl (dk KX9_isAhead 16 rfl) h (fun hi2 h => ?_)
      refine X_aload_n 0 rfl (dk KX9_isAhead 17 rfl) ?_
      refine Y_getR 159 fX9_98 (Nat.le_of_ble_eq_true rfl) rfl rfl (dk KX9_isAhead 18 rfl) ?_
      refine X_iload_n 1 rfl (dk KX9_isAhead 19 rfl) ?_
      refine Y_iald (Nat.le_of_ble_eq_true rfl) rfl (dk KX9_isAhead 20 rfl) h (fun hi3 h => ?_)
      refine X_icmp_ne 38 (dk KX9_isAhead 21 rfl) (by decide) (fun hc => ?_) (fun hc => ?_)
      · have h := hO_f hc h
        refine X_iconst (dk KX9_isAhead 24 rfl) 0 (by decide) ?_
        exact tX9_isAhead_39 ih x1 x2 x3 0 σ h
      · have h := hO_t hc h
        refine X_iconst (dk KX9_isAhead 22 rfl) 1 (by decide) ?_
        refine X_goto 39 (dk KX9_isAhead 23 rfl) (by decide) ?_
        exact tX9_isAhead_39 ih x1 x2 x3 1 σ h
def fX9_isAhead (a1 : Int32) (a2 : Int32) (σ : PS) : Option (Int32 × PS) := gd (inb 0 6) ((if (gi σ 191 (0 : Int32).toNatClampNeg) = (-1) then some (1, σ) else fX9_isAhead_14 FU a1 a2 0 σ))
set_option maxRecDepth 100000 in
set_option maxHeartbeats 4000000 in
theorem okX9_isAhead (a1 : Int32) (a2 : Int32) (σ : PS) (P : Int32 × PS → Prop) (h : hO (fX9_isAhead a1 a2 σ) P) : CON g mX9_isAhead 0 0 0 [.ref 132, .int a1, .int a2] (HP σ) (pI P) := by
  refine CON.of (by decide) (by simp [lg_sl, Value.category]) ?_
  show X g _ _ _ _ _ 0 [(0, .ref 132), (1, .int a1), (2, .int a2)] [] _
  unfold fX9_isAhead at h
  refine X_aload_n 0 rfl (dk KX9_isAhead 0 rfl) ?_
  refine Y_getR 191 fX9_197 (Nat.le_of_ble_eq_true rfl) rfl rfl (dk KX9_isAhead 1 rfl) ?_
  refine X_iconst (dk KX9_isAhead 2 rfl) 0 (by decide) ?_
  refine Y_iald (Nat.le_of_ble_eq_true rfl) rfl (dk KX9_isAhead 3 rfl) h (fun hi1 h => ?_)
  refine X_iconst (dk KX9_isAhead 4 rfl) (-1) (by decide) ?_
  refine X_icmp_ne 12 (dk KX9_isAhead 5 rfl) (by decide) (fun hc => ?_) (fun hc => ?_)
  · have h := hO_f hc h
    refine X_iconst (dk KX9_isAhead 8 rfl) 0 (by decide) ?_
    refine X_istore_n [(3, .int 0), (0, .ref 132), (1, .int a1), (2, .int a2)] (dk KX9_isAhead 9 rfl) (by decide) rfl ?_
    refine X_sub [(0, .ref 132), (1, .int a1), (2, .int a2), (3, .int 0)] [1, 2, 3, 0] rfl ?_
    exact tX9_isAhead_14 FU a1 a2 0 σ h
  · have h := hO_t hc h
    refine X_iconst (dk KX9_isAhead 6 rfl) 1 (by decide) ?_
    exact Y_zret (dk KX9_isAhead 7 rfl) rfl (by decide) h

def fX9_isWay_106 (r5 : Int32 → Int32 → Int32 → Int32 → PS → Option (Int32 × PS)) (r25 : Int32 → Int32 → Int32 → Int32 → Int32 → Int32 → Int32 → PS → Option (Int32 × PS)) (x1 : Int32) (x2 : Int32) (x3 : Int32) (x4 : Int32) (x5 : Int32) (x6 : Int32) (x7 : Int32) (σ : PS) : Option (Int32 × PS) := r25 x1 x2 x3 x4 x5 x6 (x7 + 1) σ
set_option maxRecDepth 100000 in
set_option maxHeartbeats 4000000 in
theorem tX9_isWay_106 {P : Int32 × PS → Prop} {r5 : Int32 → Int32 → Int32 → Int32 → PS → Option (Int32 × PS)} (hr_5 : ∀ (x1 : Int32) (x2 : Int32) (x3 : Int32) (x4 : Int32) (σ : PS), hO (r5 x1 x2 x3 x4 σ) P → X g mX9_isWay 0 0 0 (pI P) 5 [(0, .ref 132), (1, .int x1), (2, .int x2), (3, .int x3), (4, .int x4)] [] (HP σ)) {r25 : Int32 → Int32 → Int32 → Int32 → Int32 → Int32 → Int32 → PS → Option (Int32 × PS)} (hr_25 : ∀ (x1 : Int32) (x2 : Int32) (x3 : Int32) (x4 : Int32) (x5 : Int32) (x6 : Int32) (x7 : Int32) (σ : PS), hO (r25 x1 x2 x3 x4 x5 x6 x7 σ) P → X g mX9_isWay 0 0 0 (pI P) 25 [(0, .ref 132), (1, .int x1), (2, .int x2), (3, .int x3), (4, .int x4), (5, .int x5), (6, .int x6), (7, .int x7)] [] (HP σ)) (x1 : Int32) (x2 : Int32) (x3 : Int32) (x4 : Int32) (x5 : Int32) (x6 : Int32) (x7 : Int32) (σ : PS) (h : hO (fX9_isWay_106 r5 r25 x1 x2 x3 x4 x5 x6 x7 σ) P) : X g mX9_isWay 0 0 0 (pI P) 106 [(0, .ref 132), (1, .int x1), (2, .int x2), (3, .int x3), (4, .int x4), (5, .int x5), (6, .int x6), (7, .int x7)] [] (HP σ) := by
  unfold fX9_isWay_106 at h
  refine X_iinc 7 1 [(7, .int (x7 + 1)), (0, .ref 132), (1, .int x1), (2, .int x2), (3, .int x3), (4, .int x4), (5, .int x5), (6, .int x6)] (dk KX9_isWay 61 rfl) rfl (by decide) (by decide) rfl ?_
  refine X_goto 25 (dk KX9_isWay 62 rfl) (by decide) ?_
  refine X_sub [(0, .ref 132), (1, .int x1), (2, .int x2), (3, .int x3), (4, .int x4), (5, .int x5), (6, .int x6), (7, .int (x7 + 1))] [1, 2, 3, 4, 5, 6, 7, 0] rfl ?_
  exact hr_25 x1 x2 x3 x4 x5 x6 (x7 + 1) σ h
def fX9_isWay_70 (r5 : Int32 → Int32 → Int32 → Int32 → PS → Option (Int32 × PS)) (r25 : Int32 → Int32 → Int32 → Int32 → Int32 → Int32 → Int32 → PS → Option (Int32 × PS)) (x1 : Int32) (x2 : Int32) (x3 : Int32) (x4 : Int32) (x5 : Int32) (x6 : Int32) (x7 : Int32) (x8 : Int32) (σ : PS) : Option (Int32 × PS) := gd (inb x8 6) ((if (gi σ 161 (x8 : Int32).toNatClampNeg) = x6 then gd (inb x8 6) (gd (inb x8 6) (fX9_isWay_106 r5 r25 x1 x2 (x3 + (gi σ 162 (x8 : Int32).toNatClampNeg)) x4 (x5 + (gi σ 163 (x8 : Int32).toNatClampNeg)) x6 x7 σ)) else some (0, σ)))
set_option maxRecDepth 100000 in
set_option maxHeartbeats 4000000 in
theorem tX9_isWay_70 {P : Int32 × PS → Prop} {r5 : Int32 → Int32 → Int32 → Int32 → PS → Option (Int32 × PS)} (hr_5 : ∀ (x1 : Int32) (x2 : Int32) (x3 : Int32) (x4 : Int32) (σ : PS), hO (r5 x1 x2 x3 x4 σ) P → X g mX9_isWay 0 0 0 (pI P) 5 [(0, .ref 132), (1, .int x1), (2, .int x2), (3, .int x3), (4, .int x4)] [] (HP σ)) {r25 : Int32 → Int32 → Int32 → Int32 → Int32 → Int32 → Int32 → PS → Option (Int32 × PS)} (hr_25 : ∀ (x1 : Int32) (x2 : Int32) (x3 : Int32) (x4 : Int32) (x5 : Int32) (x6 : Int32) (x7 : Int32) (σ : PS), hO (r25 x1 x2 x3 x4 x5 x6 x7 σ) P → X g mX9_isWay 0 0 0 (pI P) 25 [(0, .ref 132), (1, .int x1), (2, .int x2), (3, .int x3), (4, .int x4), (5, .int x5), (6, .int x6), (7, .int x7)] [] (HP σ)) (x1 : Int32) (x2 : Int32) (x3 : Int32) (x4 : Int32) (x5 : Int32) (x6 : Int32) (x7 : Int32) (x8 : Int32) (σ : PS) (h : hO (fX9_isWay_70 r5 r25 x1 x2 x3 x4 x5 x6 x7 x8 σ) P) : X g mX9_isWay 0 0 0 (pI P) 70 [(0, .ref 132), (1, .int x1), (2, .int x2), (3, .int x3), (4, .int x4), (5, .int x5), (6, .int x6), (7, .int x7), (8, .int x8)] [] (HP σ) := by
  unfold fX9_isWay_70 at h
  refine X_aload_n 0 rfl (dk KX9_isWay 39 rfl) ?_
  refine Y_getR 161 fX9_104 (Nat.le_of_ble_eq_true rfl) rfl rfl (dk KX9_isWay 40 rfl) ?_
  refine X_iload 8 rfl (dk KX9_isWay 41 rfl) ?_
  refine Y_iald (Nat.le_of_ble_eq_true rfl) rfl (dk KX9_isWay 42 rfl) h (fun hi7 h => ?_)
  refine X_iload 6 rfl (dk KX9_isWay 43 rfl) ?_
  refine X_icmp_eq 84 (dk KX9_isWay 44 rfl) (by decide) (fun hc => ?_) (fun hc => ?_)
  · have h := hO_t hc h
    refine X_iload 5 rfl (dk KX9_isWay 47 rfl) ?_
    refine X_aload_n 0 rfl (dk KX9_isWay 48 rfl) ?_
    refine Y_getR 163 fX9_110 (Nat.le_of_ble_eq_true rfl) rfl rfl (dk KX9_isWay 49 rfl) ?_
    refine X_iload 8 rfl (dk KX9_isWay 50 rfl) ?_
    refine Y_iald (Nat.le_of_ble_eq_true rfl) rfl (dk KX9_isWay 51 rfl) h (fun hi8 h => ?_)
    refine X_iadd (dk KX9_isWay 52 rfl) ?_
    refine X_istore [(5, .int (x5 + (gi σ 163 (x8 : Int32).toNatClampNeg))), (0, .ref 132), (1, .int x1), (2, .int x2), (3, .int x3), (4, .int x4), (6, .int x6), (7, .int x7), (8, .int x8)] (dk KX9_isWay 53 rfl) (by decide) rfl ?_
    refine X_iload_n 4 rfl (dk KX9_isWay 54 rfl) ?_
    refine X_aload_n 1 rfl (dk KX9_isWay 55 rfl) ?_
    refine Y_getR 162 fX9_107 (Nat.le_of_ble_eq_true rfl) rfl rfl (dk KX9_isWay 56 rfl) ?_
    refine X_iload 8 rfl (dk KX9_isWay 57 rfl) ?_
    refine Y_iald (Nat.le_of_ble_eq_true rfl) rfl (dk KX9_isWay 58 rfl) h (fun hi9 h => ?_)
    refine X_iadd (dk KX9_isWay 59 rfl) ?_
    refine X_istore_n [(3, .int (x3 + (gi σ 162 (x8 : Int32).toNatClampNeg))), (5, .int (x5 + (gi σ 163 (x8 : Int32).toNatClampNeg))), (0, .ref 132), (1, .int x1), (2, .int x2), (4, .int x4), (6, .int x6), (7, .int x7), (8, .int x8)] (dk KX9_isWay 60 rfl) (by decide) rfl ?_
    refine X_sub [(0, .ref 132), (1, .int x1), (2, .int x2), (3, .int (x3 + (gi σ 162 (x8 : Int32).toNatClampNeg))), (4, .int x4), (5, .int (x5 + (gi σ 163 (x8 : Int32).toNatClampNeg))), (6, .int x6), (7, .int x7)] [2, 3, 4, 0, 5, 1, 6, 7] rfl ?_
    exact tX9_isWay_106 hr_5 hr_25 x1 x2 (x3 + (gi σ 162 (x8 : Int32).toNatClampNeg)) x4 (x5 + (gi σ 163 (x8 : Int32).toNatClampNeg)) x6 x7 σ h
  · have h := hO_f hc h
    refine X_iconst (dk KX9_isWay 45 rfl) 0 (by decide) ?_
    exact Y_zret (dk KX9_isWay 46 rfl) rfl (by decide) h
def fX9_isWay_25 (r5 : Int32 → Int32 → Int32 → Int32 → PS → Option (Int32 × PS)) : Nat → Int32 → Int32 → Int32 → Int32 → Int32 → Int32 → Int32 → PS → Option (Int32 × PS)
  | 0, _, _, _, _, _, _, _, _ => none
  | n + 1, x1, x2, x3, x4, x5, x6, x7, σ => (if x2 ≤ x7 then gd (inb ((3 * x1) + x4) 24) ((if x5 ≤ (gi σ 160 (((3 * x1) + x4) : Int32).toNatClampNeg) then r5 x1 x2 x3 (x4 + 1) σ else some (0, σ))) else gd (inb x7 6) ((if (gi σ 190 (x7 : Int32).toNatClampNeg) = x4 then gd (inb x7 6) ((if x6 = (-1) then gd (inb (gi σ 189 (x7 : Int32).toNatClampNeg) 6) (fX9_isWay_70 r5 (fX9_isWay_25 r5 n) x1 x2 x3 x4 x5 (gi σ 161 ((gi σ 189 (x7 : Int32).toNatClampNeg) : Int32).toNatClampNeg) x7 (gi σ 189 (x7 : Int32).toNatClampNeg) σ) else fX9_isWay_70 r5 (fX9_isWay_25 r5 n) x1 x2 x3 x4 x5 x6 x7 (gi σ 189 (x7 : Int32).toNatClampNeg) σ)) else fX9_isWay_106 r5 (fX9_isWay_25 r5 n) x1 x2 x3 x4 x5 x6 x7 σ)))
set_option maxRecDepth 100000 in
set_option maxHeartbeats 4000000 in
theorem tX9_isWay_25 {P : Int32 × PS → Prop} {r5 : Int32 → Int32 → Int32 → Int32 → PS → Option (Int32 × PS)} (hr_5 : ∀ (x1 : Int32) (x2 : Int32) (x3 : Int32) (x4 : Int32) (σ : PS), hO (r5 x1 x2 x3 x4 σ) P → X g mX9_isWay 0 0 0 (pI P) 5 [(0, .ref 132), (1, .int x1), (2, .int x2), (3, .int x3), (4, .int x4)] [] (HP σ)) : ∀ (n : Nat) (x1 : Int32) (x2 : Int32) (x3 : Int32) (x4 : Int32) (x5 : Int32) (x6 : Int32) (x7 : Int32) (σ : PS), hO (fX9_isWay_25 r5 n x1 x2 x3 x4 x5 x6 x7 σ) P → X g mX9_isWay 0 0 0 (pI P) 25 [(0, .ref 132), (1, .int x1), (2, .int x2), (3, .int x3), (4, .int x4), (5, .int x5), (6, .int x6), (7, .int x7)] [] (HP σ) := by
  intro n
  induction n with
  | zero =>
    intro x1 x2 x3 x4 x5 x6 x7 σ h
    rw [fX9_isWay_25] at h
    exact (hO_none h).elim
  | succ n ih =>
    intro x1 x2 x3 x4 x5 x6 x7 σ h
    rw [fX9_isWay_25] at h
    refine X_iload 7 rfl (dk KX9_isWay 16 rfl) ?_
    refine X_iload_n 2 rfl (dk KX9_isWay 17 rfl) ?_
    refine X_icmp_ge 112 (dk KX9_isWay 18 rfl) (by decide) (fun hc => ?_) (fun hc => ?_)
    · have h := hO_t hc h
      refine X_iload 5 rfl (dk KX9_isWay 63 rfl) ?_
      refine X_aload_n 0 rfl (dk KX9_isWay 64 rfl) ?_
      refine Y_getR 160 fX9_101 (Nat.le_of_ble_eq_true rfl) rfl rfl (dk KX9_isWay 65 rfl) ?_
      refine X_iconst (dk KX9_isWay 66 rfl) 3 (by decide) ?_
      refine X_iload_n 1 rfl (dk KX9_isWay 67 rfl) ?_
      refine X_imul (dk KX9_isWay 68 rfl) ?_
      refine X_iload 4 rfl (dk KX9_isWay 69 rfl) ?_
      refine X_iadd (dk KX9_isWay 70 rfl) ?_
      refine Y_iald (Nat.le_of_ble_eq_true rfl) rfl (dk KX9_isWay 71 rfl) h (fun hi3 h => ?_)
      refine X_icmp_le 130 (dk KX9_isWay 72 rfl) (by decide) (fun hc => ?_) (fun hc => ?_)
      · have h := hO_t hc h
        refine X_iinc 4 1 [(4, .int (x4 + 1)), (0, .ref 132), (1, .int x1), (2, .int x2), (3, .int x3), (5, .int x5), (6, .int x6), (7, .int x7)] (dk KX9_isWay 75 rfl) rfl (by decide) (by decide) rfl ?_
        refine X_goto 5 (dk KX9_isWay 76 rfl) (by decide) ?_
        refine X_sub [(0, .ref 132), (1, .int x1), (2, .int x2), (3, .int x3), (4, .int (x4 + 1))] [1, 2, 3, 4, 0] rfl ?_
        exact hr_5 x1 x2 x3 (x4 + 1) σ h
      · have h := hO_f hc h
        refine X_iconst (dk KX9_isWay 73 rfl) 0 (by decide) ?_
        exact Y_zret (dk KX9_isWay 74 rfl) rfl (by decide) h
    · have h := hO_f hc h
      refine X_aload_n 0 rfl (dk KX9_isWay 19 rfl) ?_
      refine Y_getR 190 fX9_194 (Nat.le_of_ble_eq_true rfl) rfl rfl (dk KX9_isWay 20 rfl) ?_
      refine X_iload 7 rfl (dk KX9_isWay 21 rfl) ?_
      refine Y_iald (Nat.le_of_ble_eq_true rfl) rfl (dk KX9_isWay 22 rfl) h (fun hi4 h => ?_)
      refine X_iload 4 rfl (dk KX9_isWay 23 rfl) ?_
      refine X_icmp_eq 46 (dk KX9_isWay 24 rfl) (by decide) (fun hc => ?_) (fun hc => ?_)
      · have h := hO_t hc h
        refine X_aload_n 0 rfl (dk KX9_isWay 26 rfl) ?_
        refine Y_getR 189 fX9_191 (Nat.le_of_ble_eq_true rfl) rfl rfl (dk KX9_isWay 27 rfl) ?_
        refine X_iload 7 rfl (dk KX9_isWay 28 rfl) ?_
        refine Y_iald (Nat.le_of_ble_eq_true rfl) rfl (dk KX9_isWay 29 rfl) h (fun hi5 h => ?_)
        refine X_istore [(8, .int (gi σ 189 (x7 : Int32).toNatClampNeg)), (0, .ref 132), (1, .int x1), (2, .int x2), (3, .int x3), (4, .int x4), (5, .int x5), (6, .int x6), (7, .int x7)] (dk KX9_isWay 30 rfl) (by decide) rfl ?_
        refine X_iload 7 rfl (dk KX9_isWay 31 rfl) ?_
        refine X_iconst (dk KX9_isWay 32 rfl) (-1) (by decide) ?_
        refine X_icmp_ne 70 (dk KX9_isWay 33 rfl) (by decide) (fun hc => ?_) (fun hc => ?_)
        · have h := hO_f hc h
          refine X_sub [(0, .ref 132), (1, .int x1), (2, .int x2), (3, .int x3), (4, .int x4), (5, .int x5), (6, .int x6), (7, .int x7), (8, .int (gi σ 189 (x7 : Int32).toNatClampNeg))] [1, 2, 3, 4, 5, 6, 7, 8, 0] rfl ?_
          exact tX9_isWay_70 hr_5 ih x1 x2 x3 x4 x5 x6 x7 (gi σ 189 (x7 : Int32).toNatClampNeg) σ h
        · have h := hO_t hc h
          refine X_aload_n 1 rfl (dk KX9_isWay 34 rfl) ?_
          refine Y_getR 161 fX9_104 (Nat.le_of_ble_eq_true rfl) rfl rfl (dk KX9_isWay 35 rfl) ?_
          refine X_iload 0 rfl (dk KX9_isWay 36 rfl) ?_
          refine Y_iald (Nat.le_of_ble_eq_true rfl) rfl (dk KX9_isWay 37 rfl) h (fun hi6 h => ?_)
          refine X_istore [(6, .int (gi σ 161 ((gi σ 189 (x7 : Int32).toNatClampNeg) : Int32).toNatClampNeg)), (8, .int (gi σ 189 (x7 : Int32).toNatClampNeg)), (0, .ref 132), (1, .int x1), (2, .int x2), (3, .int x3), (4, .int x4), (5, .int x5), (7, .int x7)] (dk KX9_isWay 38 rfl) (by decide) rfl ?_
          refine X_sub [(0, .ref 132), (1, .int x1), (2, .int x2), (3, .int x3), (4, .int x4), (5, .int x5), (6, .int (gi σ 161 ((gi σ 189 (x7 : Int32).toNatClampNeg) : Int32).toNatClampNeg)), (7, .int x7), (8, .int (gi σ 189 (x7 : Int32).toNatClampNeg))] [2, 3, 4, 5, 6, 7, 0, 8, 1] rfl ?_
          exact tX9_isWay_70 hr_5 ih x1 x2 x3 x4 x5 (gi σ 161 ((gi σ 189 (x7 : Int32).toNatClampNeg) : Int32).toNatClampNeg) x7 (gi σ 189 (x7 : Int32).toNatClampNeg) σ h
      · have h := hO_f hc h
        refine X_goto 106 (dk KX9_isWay 25 rfl) (by decide) ?_
        exact tX9_isWay_106 hr_5 ih x1 x2 x3 x4 x5 x6 x7 σ h
def fX9_isWay_5 : Nat → Int32 → Int32 → Int32 → Int32 → PS → Option (Int32 × PS)
  | 0, _, _, _, _, _ => none
  | n + 1, x1, x2, x3, x4, σ => gd (inb x1 8) ((if (gi σ 159 (x1 : Int32).toNatClampNeg) ≤ x4 then gd (inb x1 8) ((if (gi σ 157 (x1 : Int32).toNatClampNeg) < x3 then some (0, σ) else some (1, σ))) else fX9_isWay_25 (fX9_isWay_5 n) FU x1 x2 x3 x4 0 (-1) 0 σ))
set_option maxRecDepth 100000 in
set_option maxHeartbeats 4000000 in
theorem tX9_isWay_5 {P : Int32 × PS → Prop} : ∀ (n : Nat) (x1 : Int32) (x2 : Int32) (x3 : Int32) (x4 : Int32) (σ : PS), hO (fX9_isWay_5 n x1 x2 x3 x4 σ) P → X g mX9_isWay 0 0 0 (pI P) 5 [(0, .ref 132), (1, .int x1), (2, .int x2), (3, .int x3), (4, .int x4)] [] (HP σ) := by
  intro n
  induction n with
  | zero =>
    intro x1 x2 x3 x4 σ h
    rw [fX9_isWay_5] at h
    exact (hO_none h).elim
  | succ n ih =>
    intro x1 x2 x3 x4 σ h
    rw [fX9_isWay_5] at h
    refine X_iload 4 rfl (dk KX9_isWay 4 rfl) ?_
    refine X_aload_n 0 rfl (dk KX9_isWay 5 rfl) ?_
    refine Y_getR 159 fX9_98 (Nat.le_of_ble_eq_true rfl) rfl rfl (dk KX9_isWay 6 rfl) ?_
    refine X_iload_n 1 rfl (dk KX9_isWay 7 rfl) ?_
    refine Y_iald (Nat.le_of_ble_eq_true rfl) rfl (dk KX9_isWay 8 rfl) h (fun hi1 h => ?_)
    refine X_icmp_ge 136 (dk KX9_isWay 9 rfl) (by decide) (fun hc => ?_) (fun hc => ?_)
    · have h := hO_t hc h
      refine X_iload_n 3 rfl (dk KX9_isWay 77 rfl) ?_
      refine X_aload_n 0 rfl (dk KX9_isWay 78 rfl) ?_
      refine Y_getR 157 fX9_92 (Nat.le_of_ble_eq_true rfl) rfl rfl (dk KX9_isWay 79 rfl) ?_
      refine X_iload_n 1 rfl (dk KX9_isWay 80 rfl) ?_
      refine Y_iald (Nat.le_of_ble_eq_true rfl) rfl (dk KX9_isWay 81 rfl) h (fun hi2 h => ?_)
      refine X_icmp_gt 150 (dk KX9_isWay 82 rfl) (by decide) (fun hc => ?_) (fun hc => ?_)
      · have h := hO_t hc h
        refine X_iconst (dk KX9_isWay 85 rfl) 0 (by decide) ?_
        exact Y_zret (dk KX9_isWay 86 rfl) rfl (by decide) h
      · have h := hO_f hc h
        refine X_iconst (dk KX9_isWay 83 rfl) 1 (by decide) ?_
        refine X_goto 151 (dk KX9_isWay 84 rfl) (by decide) ?_
        exact Y_zret (dk KX9_isWay 86 rfl) rfl (by decide) h
    · have h := hO_f hc h
      refine X_iconst (dk KX9_isWay 10 rfl) 0 (by decide) ?_
      refine X_istore [(5, .int 0), (0, .ref 132), (1, .int x1), (2, .int x2), (3, .int x3), (4, .int x4)] (dk KX9_isWay 11 rfl) (by decide) rfl ?_
      refine X_iconst (dk KX9_isWay 12 rfl) (-1) (by decide) ?_
      refine X_istore [(6, .int (-1)), (5, .int 0), (0, .ref 132), (1, .int x1), (2, .int x2), (3, .int x3), (4, .int x4)] (dk KX9_isWay 13 rfl) (by decide) rfl ?_
      refine X_iconst (dk KX9_isWay 14 rfl) 0 (by decide) ?_
      refine X_istore [(7, .int 0), (6, .int (-1)), (5, .int 0), (0, .ref 132), (1, .int x1), (2, .int x2), (3, .int x3), (4, .int x4)] (dk KX9_isWay 15 rfl) (by decide) rfl ?_
      refine X_sub [(0, .ref 132), (1, .int x1), (2, .int x2), (3, .int x3), (4, .int x4), (5, .int 0), (6, .int (-1)), (7, .int 0)] [3, 4, 5, 6, 7, 2, 1, 0] rfl ?_
      exact tX9_isWay_25 ih FU x1 x2 x3 x4 0 (-1) 0 σ h
def fX9_isWay (a1 : Int32) (a2 : Int32) (σ : PS) : Option (Int32 × PS) := fX9_isWay_5 FU a1 a2 0 0 σ
set_option maxRecDepth 100000 in
set_option maxHeartbeats 4000000 in
theorem okX9_isWay (a1 : Int32) (a2 : Int32) (σ : PS) (P : Int32 × PS → Prop) (h : hO (fX9_isWay a1 a2 σ) P) : CON g mX9_isWay 0 0 0 [.ref 132, .int a1, .int a2] (HP σ) (pI P) := by
  refine CON.of (by decide) (by simp [lg_sl, Value.category]) ?_
  show X g _ _ _ _ _ 0 [(0, .ref 132), (1, .int a1), (2, .int a2)] [] _
  unfold fX9_isWay at h
  refine X_iconst (dk KX9_isWay 0 rfl) 0 (by decide) ?_
  refine X_istore_n [(3, .int 0), (0, .ref 132), (1, .int a1), (2, .int a2)] (dk KX9_isWay 1 rfl) (by decide) rfl ?_
  refine X_iconst (dk KX9_isWay 2 rfl) 0 (by decide) ?_
  refine X_istore [(4, .int 0), (3, .int 0), (0, .ref 132), (1, .int a1), (2, .int a2)] (dk KX9_isWay 3 rfl) (by decide) rfl ?_
  refine X_sub [(0, .ref 132), (1, .int a1), (2, .int a2), (3, .int 0), (4, .int 0)] [2, 3, 4, 1, 0] rfl ?_
  exact tX9_isWay_5 FU a1 a2 0 0 σ h

def fX9_lays_154 (r37 : Int32 → Int32 → Int32 → PS → Option (PS)) (x1 : Int32) (x2 : Int32) (x3 : Int32) (σ : PS) : Option (PS) := r37 x1 x2 x3 σ
set_option maxRecDepth 100000 in
set_option maxHeartbeats 4000000 in
theorem tX9_lays_154 {P : PS → Prop} {r37 : Int32 → Int32 → Int32 → PS → Option (PS)} (hr_37 : ∀ (x1 : Int32) (x2 : Int32) (x3 : Int32) (σ : PS), hO (r37 x1 x2 x3 σ) P → X g mX9_lays 1 0 0 (pV P) 37 [(0, .ref 132), (1, .int x1), (2, .int x2), (3, .int x3)] [] (HP σ)) (x1 : Int32) (x2 : Int32) (x3 : Int32) (σ : PS) (h : hO (fX9_lays_154 r37 x1 x2 x3 σ) P) : X g mX9_lays 1 0 0 (pV P) 154 [(0, .ref 132), (1, .int x1), (2, .int x2), (3, .int x3)] [] (HP σ) := by
  unfold fX9_lays_154 at h
  refine X_goto 37 (dk KX9_lays 88 rfl) (by decide) ?_
  exact hr_37 x1 x2 x3 σ h
def fX9_lays_138 (r37 : Int32 → Int32 → Int32 → PS → Option (PS)) (x1 : Int32) (x2 : Int32) (x4 : Int32) (s0 : Int32) (σ : PS) : Option (PS) := (if s0 = 0 then fX9_lays_154 r37 x1 x2 s0 σ else gd (inb x4 6) (gd (inb x4 6) (fX9_lays_154 r37 x1 x2 s0 (sI σ 190 (x4 : Int32).toNatClampNeg ((gi σ 190 (x4 : Int32).toNatClampNeg) + 1)))))
set_option maxRecDepth 100000 in
set_option maxHeartbeats 4000000 in
theorem tX9_lays_138 {P : PS → Prop} {r37 : Int32 → Int32 → Int32 → PS → Option (PS)} (hr_37 : ∀ (x1 : Int32) (x2 : Int32) (x3 : Int32) (σ : PS), hO (r37 x1 x2 x3 σ) P → X g mX9_lays 1 0 0 (pV P) 37 [(0, .ref 132), (1, .int x1), (2, .int x2), (3, .int x3)] [] (HP σ)) (x1 : Int32) (x2 : Int32) (x4 : Int32) (s0 : Int32) (σ : PS) (h : hO (fX9_lays_138 r37 x1 x2 x4 s0 σ) P) : X g mX9_lays 1 0 0 (pV P) 138 [(0, .ref 132), (1, .int x1), (2, .int x2), (4, .int x4)] [.int s0] (HP σ) := by
  unfold fX9_lays_138 at h
  refine X_istore_n [(3, .int s0), (0, .ref 132), (1, .int x1), (2, .int x2), (4, .int x4)] (dk KX9_lays 77 rfl) (by decide) rfl ?_
  refine X_iload_n 0 rfl (dk KX9_lays 78 rfl) ?_
  refine X_if_eq 154 (dk KX9_lays 79 rfl) (by decide) (fun hc => ?_) (fun hc => ?_)
  · have h := hO_t hc h
    refine X_sub [(0, .ref 132), (1, .int x1), (2, .int x2), (3, .int s0)] [1, 2, 3, 0] rfl ?_
    exact tX9_lays_154 hr_37 x1 x2 s0 σ h
  · have h := hO_f hc h
    refine X_aload_n 1 rfl (dk KX9_lays 80 rfl) ?_
    refine Y_getR 190 fX9_194 (Nat.le_of_ble_eq_true rfl) rfl rfl (dk KX9_lays 81 rfl) ?_
    refine X_iload 4 rfl (dk KX9_lays 82 rfl) ?_
    refine X_dup2 (dk KX9_lays 83 rfl) rfl rfl ?_
    refine Y_iald (Nat.le_of_ble_eq_true rfl) rfl (dk KX9_lays 84 rfl) h (fun hi14 h => ?_)
    refine X_iconst (dk KX9_lays 85 rfl) 1 (by decide) ?_
    refine X_iadd (dk KX9_lays 86 rfl) ?_
    refine Y_iast (Nat.le_of_ble_eq_true rfl) rfl (dk KX9_lays 87 rfl) h (fun hi15 h => ?_)
    refine X_sub [(0, .ref 132), (1, .int x1), (2, .int x2), (3, .int s0)] [1, 2, 3, 0] rfl ?_
    exact tX9_lays_154 hr_37 x1 x2 s0 (sI σ 190 (x4 : Int32).toNatClampNeg ((gi σ 190 (x4 : Int32).toNatClampNeg) + 1)) h
def fX9_lays_128 (r37 : Int32 → Int32 → Int32 → PS → Option (PS)) (x1 : Int32) (x2 : Int32) (x4 : Int32) (σ : PS) : Option (PS) := (if x4 < 0 then fX9_lays_138 r37 x1 x2 x4 0 σ else fX9_lays_138 r37 x1 x2 x4 1 σ)
set_option maxRecDepth 100000 in
set_option maxHeartbeats 4000000 in
theorem tX9_lays_128 {P : PS → Prop} {r37 : Int32 → Int32 → Int32 → PS → Option (PS)} (hr_37 : ∀ (x1 : Int32) (x2 : Int32) (x3 : Int32) (σ : PS), hO (r37 x1 x2 x3 σ) P → X g mX9_lays 1 0 0 (pV P) 37 [(0, .ref 132), (1, .int x1), (2, .int x2), (3, .int x3)] [] (HP σ)) (x1 : Int32) (x2 : Int32) (x4 : Int32) (σ : PS) (h : hO (fX9_lays_128 r37 x1 x2 x4 σ) P) : X g mX9_lays 1 0 0 (pV P) 128 [(0, .ref 132), (1, .int x1), (2, .int x2), (4, .int x4)] [] (HP σ) := by
  unfold fX9_lays_128 at h
  refine X_iload 3 rfl (dk KX9_lays 72 rfl) ?_
  refine X_if_lt 137 (dk KX9_lays 73 rfl) (by decide) (fun hc => ?_) (fun hc => ?_)
  · have h := hO_t hc h
    refine X_iconst (dk KX9_lays 76 rfl) 0 (by decide) ?_
    exact tX9_lays_138 hr_37 x1 x2 x4 0 σ h
  · have h := hO_f hc h
    refine X_iconst (dk KX9_lays 74 rfl) 1 (by decide) ?_
    refine X_goto 138 (dk KX9_lays 75 rfl) (by decide) ?_
    exact tX9_lays_138 hr_37 x1 x2 x4 1 σ h
def fX9_lays_93 (r37 : Int32 → Int32 → Int32 → PS → Option (PS)) : Nat → Int32 → Int32 → Int32 → PS → Option (PS)
  | 0, _, _, _, _ => none
  | n + 1, x1, x2, x4, σ => (if x4 < 0 then fX9_lays_128 r37 x1 x2 x4 σ else gd (inb x4 6) (gd (inb x1 8) ((if (gi σ 190 (x4 : Int32).toNatClampNeg) = (gi σ 159 (x1 : Int32).toNatClampNeg) then gd (inb x4 6) (fX9_lays_93 r37 n x1 x2 (x4 + (-1)) (sI σ 190 (x4 : Int32).toNatClampNeg 0)) else fX9_lays_128 r37 x1 x2 x4 σ))))
set_option maxRecDepth 100000 in
set_option maxHeartbeats 4000000 in
theorem tX9_lays_93 {P : PS → Prop} {r37 : Int32 → Int32 → Int32 → PS → Option (PS)} (hr_37 : ∀ (x1 : Int32) (x2 : Int32) (x3 : Int32) (σ : PS), hO (r37 x1 x2 x3 σ) P → X g mX9_lays 1 0 0 (pV P) 37 [(0, .ref 132), (1, .int x1), (2, .int x2), (3, .int x3)] [] (HP σ)) : ∀ (n : Nat) (x1 : Int32) (x2 : Int32) (x4 : Int32) (σ : PS), hO (fX9_lays_93 r37 n x1 x2 x4 σ) P → X g mX9_lays 1 0 0 (pV P) 93 [(0, .ref 132), (1, .int x1), (2, .int x2), (4, .int x4)] [] (HP σ) := by
  intro n
  induction n with
  | zero =>
    intro x1 x2 x4 σ h
    rw [fX9_lays_93] at h
    exact (hO_none h).elim
  | succ n ih =>
    intro x1 x2 x4 σ h
    rw [fX9_lays_93] at h
    refine X_iload 3 rfl (dk KX9_lays 54 rfl) ?_
    refine X_if_lt 128 (dk KX9_lays 55 rfl) (by decide) (fun hc => ?_) (fun hc => ?_)
    · have h := hO_t hc h
      exact tX9_lays_128 hr_37 x1 x2 x4 σ h
    · have h := hO_f hc h
      refine X_aload_n 0 rfl (dk KX9_lays 56 rfl) ?_
      refine Y_getR 190 fX9_194 (Nat.le_of_ble_eq_true rfl) rfl rfl (dk KX9_lays 57 rfl) ?_
      refine X_iload 3 rfl (dk KX9_lays 58 rfl) ?_
      refine Y_iald (Nat.le_of_ble_eq_true rfl) rfl (dk KX9_lays 59 rfl) h (fun hi11 h => ?_)
      refine X_aload_n 0 rfl (dk KX9_lays 60 rfl) ?_
      refine Y_getR 159 fX9_98 (Nat.le_of_ble_eq_true rfl) rfl rfl (dk KX9_lays 61 rfl) ?_
      refine X_iload_n 1 rfl (dk KX9_lays 62 rfl) ?_
      refine Y_iald (Nat.le_of_ble_eq_true rfl) rfl (dk KX9_lays 63 rfl) h (fun hi12 h => ?_)
      refine X_icmp_ne 128 (dk KX9_lays 64 rfl) (by decide) (fun hc => ?_) (fun hc => ?_)
      · have h := hO_f hc h
        exact tX9_lays_128 hr_37 x1 x2 x4 σ h
      · have h := hO_t hc h
        refine X_aload_n 0 rfl (dk KX9_lays 65 rfl) ?_
        refine Y_getR 190 fX9_194 (Nat.le_of_ble_eq_true rfl) rfl rfl (dk KX9_lays 66 rfl) ?_
        refine X_iload 3 rfl (dk KX9_lays 67 rfl) ?_
        refine X_iconst (dk KX9_lays 68 rfl) 0 (by decide) ?_
        refine Y_iast (Nat.le_of_ble_eq_true rfl) rfl (dk KX9_lays 69 rfl) h (fun hi13 h => ?_)
        refine X_iinc 3 (-1) [(4, .int (x4 + (-1))), (0, .ref 132), (1, .int x1), (2, .int x2)] (dk KX9_lays 70 rfl) rfl (by decide) (by decide) rfl ?_
        refine X_goto 93 (dk KX9_lays 71 rfl) (by decide) ?_
        refine X_sub [(0, .ref 132), (1, .int x1), (2, .int x2), (4, .int (x4 + (-1)))] [1, 2, 3, 0] rfl ?_
        exact ih x1 x2 (x4 + (-1)) (sI σ 190 (x4 : Int32).toNatClampNeg 0) h
def fX9_lays_88 (r37 : Int32 → Int32 → Int32 → PS → Option (PS)) (x1 : Int32) (x2 : Int32) (σ : PS) : Option (PS) := fX9_lays_93 r37 FU x1 x2 (x2 - 1) σ
set_option maxRecDepth 100000 in
set_option maxHeartbeats 4000000 in
theorem tX9_lays_88 {P : PS → Prop} {r37 : Int32 → Int32 → Int32 → PS → Option (PS)} (hr_37 : ∀ (x1 : Int32) (x2 : Int32) (x3 : Int32) (σ : PS), hO (r37 x1 x2 x3 σ) P → X g mX9_lays 1 0 0 (pV P) 37 [(0, .ref 132), (1, .int x1), (2, .int x2), (3, .int x3)] [] (HP σ)) (x1 : Int32) (x2 : Int32) (σ : PS) (h : hO (fX9_lays_88 r37 x1 x2 σ) P) : X g mX9_lays 1 0 0 (pV P) 88 [(0, .ref 132), (1, .int x1), (2, .int x2)] [] (HP σ) := by
  unfold fX9_lays_88 at h
  refine X_iload_n 2 rfl (dk KX9_lays 50 rfl) ?_
  refine X_iconst (dk KX9_lays 51 rfl) 1 (by decide) ?_
  refine X_isub (dk KX9_lays 52 rfl) ?_
  refine X_istore [(4, .int (x2 - 1)), (0, .ref 132), (1, .int x1), (2, .int x2)] (dk KX9_lays 53 rfl) (by decide) rfl ?_
  refine X_sub [(0, .ref 132), (1, .int x1), (2, .int x2), (4, .int (x2 - 1))] [1, 2, 3, 0] rfl ?_
  exact tX9_lays_93 hr_37 FU x1 x2 (x2 - 1) σ h
def fX9_lays_62 (r37 : Int32 → Int32 → Int32 → PS → Option (PS)) : Nat → Int32 → Int32 → Int32 → PS → Option (PS)
  | 0, _, _, _, _ => none
  | n + 1, x1, x2, x4, σ => (if x2 ≤ x4 then fX9_lays_88 r37 x1 x2 σ else gd (inb x4 6) (gd (inb x4 6) (fX9_lays_62 r37 n x1 x2 (x4 + 1) (sI σ 191 (x4 : Int32).toNatClampNeg (gi σ 190 (x4 : Int32).toNatClampNeg)))))
set_option maxRecDepth 100000 in
set_option maxHeartbeats 4000000 in
theorem tX9_lays_62 {P : PS → Prop} {r37 : Int32 → Int32 → Int32 → PS → Option (PS)} (hr_37 : ∀ (x1 : Int32) (x2 : Int32) (x3 : Int32) (σ : PS), hO (r37 x1 x2 x3 σ) P → X g mX9_lays 1 0 0 (pV P) 37 [(0, .ref 132), (1, .int x1), (2, .int x2), (3, .int x3)] [] (HP σ)) : ∀ (n : Nat) (x1 : Int32) (x2 : Int32) (x4 : Int32) (σ : PS), hO (fX9_lays_62 r37 n x1 x2 x4 σ) P → X g mX9_lays 1 0 0 (pV P) 62 [(0, .ref 132), (1, .int x1), (2, .int x2), (4, .int x4)] [] (HP σ) := by
  intro n
  induction n with
  | zero =>
    intro x1 x2 x4 σ h
    rw [fX9_lays_62] at h
    exact (hO_none h).elim
  | succ n ih =>
    intro x1 x2 x4 σ h
    rw [fX9_lays_62] at h
    refine X_iload 3 rfl (dk KX9_lays 37 rfl) ?_
    refine X_iload_n 2 rfl (dk KX9_lays 38 rfl) ?_
    refine X_icmp_ge 88 (dk KX9_lays 39 rfl) (by decide) (fun hc => ?_) (fun hc => ?_)
    · have h := hO_t hc h
      refine X_sub [(0, .ref 132), (1, .int x1), (2, .int x2)] [0, 1, 2] rfl ?_
      exact tX9_lays_88 hr_37 x1 x2 σ h
    · have h := hO_f hc h
      refine X_aload_n 0 rfl (dk KX9_lays 40 rfl) ?_
      refine Y_getR 191 fX9_197 (Nat.le_of_ble_eq_true rfl) rfl rfl (dk KX9_lays 41 rfl) ?_
      refine X_iload 3 rfl (dk KX9_lays 42 rfl) ?_
      refine X_aload_n 0 rfl (dk KX9_lays 43 rfl) ?_
      refine Y_getR 190 fX9_194 (Nat.le_of_ble_eq_true rfl) rfl rfl (dk KX9_lays 44 rfl) ?_
      refine X_iload 3 rfl (dk KX9_lays 45 rfl) ?_
      refine Y_iald (Nat.le_of_ble_eq_true rfl) rfl (dk KX9_lays 46 rfl) h (fun hi9 h => ?_)
      refine Y_iast (Nat.le_of_ble_eq_true rfl) rfl (dk KX9_lays 47 rfl) h (fun hi10 h => ?_)
      refine X_iinc 3 1 [(4, .int (x4 + 1)), (0, .ref 132), (1, .int x1), (2, .int x2)] (dk KX9_lays 48 rfl) rfl (by decide) (by decide) rfl ?_
      refine X_goto 62 (dk KX9_lays 49 rfl) (by decide) ?_
      refine X_sub [(0, .ref 132), (1, .int x1), (2, .int x2), (4, .int (x4 + 1))] [1, 2, 3, 0] rfl ?_
      exact ih x1 x2 (x4 + 1) (sI σ 191 (x4 : Int32).toNatClampNeg (gi σ 190 (x4 : Int32).toNatClampNeg)) h
def fX9_lays_37 : Nat → Int32 → Int32 → Int32 → PS → Option (PS)
  | 0, _, _, _, _ => none
  | n + 1, x1, x2, x3, σ => (if x3 = 0 then some σ else (fX9_isWay x1 x2 σ).bind (fun qy3 => (fun (y3 : Int32) (σ4 : PS) => (if y3 = 0 then fX9_lays_88 (fX9_lays_37 n) x1 x2 σ4 else (fX9_isAhead x1 x2 σ4).bind (fun qy6 => (fun (y6 : Int32) (σ7 : PS) => (if y6 = 0 then fX9_lays_88 (fX9_lays_37 n) x1 x2 σ7 else fX9_lays_62 (fX9_lays_37 n) FU x1 x2 0 σ7)) qy6.1 qy6.2))) qy3.1 qy3.2))
set_option maxRecDepth 100000 in
set_option maxHeartbeats 4000000 in
theorem tX9_lays_37 {P : PS → Prop} : ∀ (n : Nat) (x1 : Int32) (x2 : Int32) (x3 : Int32) (σ : PS), hO (fX9_lays_37 n x1 x2 x3 σ) P → X g mX9_lays 1 0 0 (pV P) 37 [(0, .ref 132), (1, .int x1), (2, .int x2), (3, .int x3)] [] (HP σ) := by
  intro n
  induction n with
  | zero =>
    intro x1 x2 x3 σ h
    rw [fX9_lays_37] at h
    exact (hO_none h).elim
  | succ n ih =>
    intro x1 x2 x3 σ h
    rw [fX9_lays_37] at h
    refine X_iload_n 3 rfl (dk KX9_lays 23 rfl) ?_
    refine X_if_eq 157 (dk KX9_lays 24 rfl) (by decide) (fun hc => ?_) (fun hc => ?_)
    · have h := hO_t hc h
      exact Y_vret (dk KX9_lays 89 rfl) rfl h
    · have h := hO_f hc h
      refine X_aload_n 0 rfl (dk KX9_lays 25 rfl) ?_
      refine X_iload_n 1 rfl (dk KX9_lays 26 rfl) ?_
      refine X_iload_n 2 rfl (dk KX9_lays 27 rfl) ?_
      refine Y_callVI wX9_359 (Nat.le_of_ble_eq_true rfl) rfl [.int x1, .int x2] [] rfl rfl (Nat.le_of_ble_eq_true rfl) (Nat.le_of_ble_eq_true rfl) (dk KX9_lays 28 rfl) (fun Pc h => okX9_isWay _ _ _ Pc h) h (fun y3 σ4 e5 h => ?_)
      try dsimp only at h
      refine X_if_eq 88 (dk KX9_lays 29 rfl) (by decide) (fun hc => ?_) (fun hc => ?_)
      · have h := hO_t hc h
        refine X_sub [(0, .ref 132), (1, .int x1), (2, .int x2)] [0, 1, 2] rfl ?_
        exact tX9_lays_88 ih x1 x2 σ4 h
      · have h := hO_f hc h
        refine X_aload_n 0 rfl (dk KX9_lays 30 rfl) ?_
        refine X_iload_n 1 rfl (dk KX9_lays 31 rfl) ?_
        refine X_iload_n 2 rfl (dk KX9_lays 32 rfl) ?_
        refine Y_callVI wX9_363 (Nat.le_of_ble_eq_true rfl) rfl [.int x1, .int x2] [] rfl rfl (Nat.le_of_ble_eq_true rfl) (Nat.le_of_ble_eq_true rfl) (dk KX9_lays 33 rfl) (fun Pc h => okX9_isAhead _ _ _ Pc h) h (fun y6 σ7 e8 h => ?_)
        try dsimp only at h
        refine X_if_eq 88 (dk KX9_lays 34 rfl) (by decide) (fun hc => ?_) (fun hc => ?_)
        · have h := hO_t hc h
          refine X_sub [(0, .ref 132), (1, .int x1), (2, .int x2)] [0, 1, 2] rfl ?_
          exact tX9_lays_88 ih x1 x2 σ7 h
        · have h := hO_f hc h
          refine X_iconst (dk KX9_lays 35 rfl) 0 (by decide) ?_
          refine X_istore [(4, .int 0), (0, .ref 132), (1, .int x1), (2, .int x2), (3, .int x3)] (dk KX9_lays 36 rfl) (by decide) rfl ?_
          refine X_sub [(0, .ref 132), (1, .int x1), (2, .int x2), (4, .int 0)] [1, 2, 3, 0] rfl ?_
          exact tX9_lays_62 ih FU x1 x2 0 σ7 h
def fX9_lays_36 (x1 : Int32) (x2 : Int32) (s0 : Int32) (σ : PS) : Option (PS) := fX9_lays_37 FU x1 x2 s0 σ
set_option maxRecDepth 100000 in
set_option maxHeartbeats 4000000 in
theorem tX9_lays_36 {P : PS → Prop} (x1 : Int32) (x2 : Int32) (s0 : Int32) (σ : PS) (h : hO (fX9_lays_36 x1 x2 s0 σ) P) : X g mX9_lays 1 0 0 (pV P) 36 [(0, .ref 132), (1, .int x1), (2, .int x2)] [.int s0] (HP σ) := by
  unfold fX9_lays_36 at h
  refine X_istore_n [(3, .int s0), (0, .ref 132), (1, .int x1), (2, .int x2)] (dk KX9_lays 22 rfl) (by decide) rfl ?_
  refine X_sub [(0, .ref 132), (1, .int x1), (2, .int x2), (3, .int s0)] [1, 2, 3, 0] rfl ?_
  exact tX9_lays_37 FU x1 x2 s0 σ h
def fX9_lays_2 : Nat → Int32 → Int32 → Int32 → PS → Option (PS)
  | 0, _, _, _, _ => none
  | n + 1, x1, x2, x3, σ => (if x2 ≤ x3 then (if x2 ≤ 0 then fX9_lays_36 x1 x2 0 σ else fX9_lays_36 x1 x2 1 σ) else gd (inb x3 6) (gd (inb x3 6) (fX9_lays_2 n x1 x2 (x3 + 1) (sI (sI σ 190 (x3 : Int32).toNatClampNeg 0) 191 (x3 : Int32).toNatClampNeg (-1)))))
set_option maxRecDepth 100000 in
set_option maxHeartbeats 4000000 in
theorem tX9_lays_2 {P : PS → Prop} : ∀ (n : Nat) (x1 : Int32) (x2 : Int32) (x3 : Int32) (σ : PS), hO (fX9_lays_2 n x1 x2 x3 σ) P → X g mX9_lays 1 0 0 (pV P) 2 [(0, .ref 132), (1, .int x1), (2, .int x2), (3, .int x3)] [] (HP σ) := by
  intro n
  induction n with
  | zero =>
    intro x1 x2 x3 σ h
    rw [fX9_lays_2] at h
    exact (hO_none h).elim
  | succ n ih =>
    intro x1 x2 x3 σ h
    rw [fX9_lays_2] at h
    refine X_iload_n 3 rfl (dk KX9_lays 2 rfl) ?_
    refine X_iload_n 2 rfl (dk KX9_lays 3 rfl) ?_
    refine X_icmp_ge 27 (dk KX9_lays 4 rfl) (by decide) (fun hc => ?_) (fun hc => ?_)
    · have h := hO_t hc h
      refine X_iload_n 2 rfl (dk KX9_lays 17 rfl) ?_
      refine X_if_le 35 (dk KX9_lays 18 rfl) (by decide) (fun hc => ?_) (fun hc => ?_)
      · have h := hO_t hc h
        refine X_iconst (dk KX9_lays 21 rfl) 0 (by decide) ?_
        refine X_sub [(0, .ref 132), (1, .int x1), (2, .int x2)] [0, 1, 2] rfl ?_
        exact tX9_lays_36 x1 x2 0 σ h
      · have h := hO_f hc h
        refine X_iconst (dk KX9_lays 19 rfl) 1 (by decide) ?_
        refine X_goto 36 (dk KX9_lays 20 rfl) (by decide) ?_
        refine X_sub [(0, .ref 132), (1, .int x1), (2, .int x2)] [0, 1, 2] rfl ?_
        exact tX9_lays_36 x1 x2 1 σ h
    · have h := hO_f hc h
      refine X_aload_n 0 rfl (dk KX9_lays 5 rfl) ?_
      refine Y_getR 190 fX9_194 (Nat.le_of_ble_eq_true rfl) rfl rfl (dk KX9_lays 6 rfl) ?_
      refine X_iload_n 3 rfl (dk KX9_lays 7 rfl) ?_
      refine X_iconst (dk KX9_lays 8 rfl) 0 (by decide) ?_
      refine Y_iast (Nat.le_of_ble_eq_true rfl) rfl (dk KX9_lays 9 rfl) h (fun hi1 h => ?_)
      refine X_aload_n 0 rfl (dk KX9_lays 10 rfl) ?_
      refine Y_getR 191 fX9_197 (Nat.le_of_ble_eq_true rfl) rfl rfl (dk KX9_lays 11 rfl) ?_
      refine X_iload_n 3 rfl (dk KX9_lays 12 rfl) ?_
      refine X_iconst (dk KX9_lays 13 rfl) (-1) (by decide) ?_
      refine Y_iast (Nat.le_of_ble_eq_true rfl) rfl (dk KX9_lays 14 rfl) h (fun hi2 h => ?_)
      refine X_iinc 3 1 [(3, .int (x3 + 1)), (0, .ref 132), (1, .int x1), (2, .int x2)] (dk KX9_lays 15 rfl) rfl (by decide) (by decide) rfl ?_
      refine X_goto 2 (dk KX9_lays 16 rfl) (by decide) ?_
      refine X_sub [(0, .ref 132), (1, .int x1), (2, .int x2), (3, .int (x3 + 1))] [1, 2, 3, 0] rfl ?_
      exact ih x1 x2 (x3 + 1) (sI (sI σ 190 (x3 : Int32).toNatClampNeg 0) 191 (x3 : Int32).toNatClampNeg (-1)) h
def fX9_lays (a1 : Int32) (a2 : Int32) (σ : PS) : Option (PS) := fX9_lays_2 FU a1 a2 0 σ
set_option maxRecDepth 100000 in
set_option maxHeartbeats 4000000 in
theorem okX9_lays (a1 : Int32) (a2 : Int32) (σ : PS) (P : PS → Prop) (h : hO (fX9_lays a1 a2 σ) P) : CON g mX9_lays 1 0 0 [.ref 132, .int a1, .int a2] (HP σ) (pV P) := by
  refine CON.of (by decide) (by simp [lg_sl, Value.category]) ?_
  show X g _ _ _ _ _ 0 [(0, .ref 132), (1, .int a1), (2, .int a2)] [] _
  unfold fX9_lays at h
  refine X_iconst (dk KX9_lays 0 rfl) 0 (by decide) ?_
  refine X_istore_n [(3, .int 0), (0, .ref 132), (1, .int a1), (2, .int a2)] (dk KX9_lays 1 rfl) (by decide) rfl ?_
  refine X_sub [(0, .ref 132), (1, .int a1), (2, .int a2), (3, .int 0)] [1, 2, 3, 0] rfl ?_
  exact tX9_lays_2 FU a1 a2 0 σ h

def fX9_evening_343 (r282 : Int32 → Int32 → Int32 → Int32 → Int32 → PS → Option (PS)) (x1 : Int32) (x2 : Int32) (x3 : Int32) (x4 : Int32) (x5 : Int32) (σ : PS) : Option (PS) := r282 x1 x2 x3 x4 (x5 + 1) σ
set_option maxRecDepth 100000 in
set_option maxHeartbeats 4000000 in
theorem tX9_evening_343 {P : PS → Prop} {r282 : Int32 → Int32 → Int32 → Int32 → Int32 → PS → Option (PS)} (hr_282 : ∀ (x1 : Int32) (x2 : Int32) (x3 : Int32) (x4 : Int32) (x5 : Int32) (σ : PS), hO (r282 x1 x2 x3 x4 x5 σ) P → X g mX9_evening 3 0 0 (pV P) 282 [(0, .ref 132), (1, .int x1), (2, .int x2), (3, .int x3), (4, .int x4), (5, .int x5)] [] (HP σ)) (x1 : Int32) (x2 : Int32) (x3 : Int32) (x4 : Int32) (x5 : Int32) (σ : PS) (h : hO (fX9_evening_343 r282 x1 x2 x3 x4 x5 σ) P) : X g mX9_evening 3 0 0 (pV P) 343 [(0, .ref 132), (1, .int x1), (2, .int x2), (3, .int x3), (4, .int x4), (5, .int x5)] [] (HP σ) := by
  unfold fX9_evening_343 at h
  refine X_iinc 5 1 [(5, .int (x5 + 1)), (0, .ref 132), (1, .int x1), (2, .int x2), (3, .int x3), (4, .int x4)] (dk KX9_evening 196 rfl) rfl (by decide) (by decide) rfl ?_
  refine X_goto 282 (dk KX9_evening 197 rfl) (by decide) ?_
  refine X_sub [(0, .ref 132), (1, .int x1), (2, .int x2), (3, .int x3), (4, .int x4), (5, .int (x5 + 1))] [1, 2, 3, 4, 5, 0] rfl ?_
  exact hr_282 x1 x2 x3 x4 (x5 + 1) σ h
def fX9_evening_282 : Nat → Int32 → Int32 → Int32 → Int32 → Int32 → PS → Option (PS)
  | 0, _, _, _, _, _, _ => none
  | n + 1, x1, x2, x3, x4, x5, σ => (if x3 ≤ x5 then gd (inb ((60 * x1) + x2) 480) (some (sI σ 179 (((60 * x1) + x2) : Int32).toNatClampNeg x4)) else gd (inb x5 6) (gd (inb (gi σ 189 (x5 : Int32).toNatClampNeg) 6) ((if (gi σ 162 ((gi σ 189 (x5 : Int32).toNatClampNeg) : Int32).toNatClampNeg) ≤ x4 then gd (inb (gi σ 189 (x5 : Int32).toNatClampNeg) 6) (gd (inb (gi σ 189 (x5 : Int32).toNatClampNeg) 6) (fX9_evening_343 (fX9_evening_282 n) x1 x2 x3 (x4 - (gi σ 162 ((gi σ 189 (x5 : Int32).toNatClampNeg) : Int32).toNatClampNeg)) x5 (sI σ 183 ((gi σ 189 (x5 : Int32).toNatClampNeg) : Int32).toNatClampNeg 0))) else gd (inb (gi σ 189 (x5 : Int32).toNatClampNeg) 6) (gd (inb (gi σ 189 (x5 : Int32).toNatClampNeg) 6) (fX9_evening_343 (fX9_evening_282 n) x1 x2 x3 x4 x5 (sI σ 183 ((gi σ 189 (x5 : Int32).toNatClampNeg) : Int32).toNatClampNeg ((gi σ 183 ((gi σ 189 (x5 : Int32).toNatClampNeg) : Int32).toNatClampNeg) + 1))))))))
set_option maxRecDepth 100000 in
set_option maxHeartbeats 4000000 in
theorem tX9_evening_282 {P : PS → Prop} : ∀ (n : Nat) (x1 : Int32) (x2 : Int32) (x3 : Int32) (x4 : Int32) (x5 : Int32) (σ : PS), hO (fX9_evening_282 n x1 x2 x3 x4 x5 σ) P → X g mX9_evening 3 0 0 (pV P) 282 [(0, .ref 132), (1, .int x1), (2, .int x2), (3, .int x3), (4, .int x4), (5, .int x5)] [] (HP σ) := by
  intro n
  induction n with
  | zero =>
    intro x1 x2 x3 x4 x5 σ h
    rw [fX9_evening_282] at h
    exact (hO_none h).elim
  | succ n ih =>
    intro x1 x2 x3 x4 x5 σ h
    rw [fX9_evening_282] at h
    refine X_iload 5 rfl (dk KX9_evening 161 rfl) ?_
    refine X_iload_n 3 rfl (dk KX9_evening 162 rfl) ?_
    refine X_icmp_ge 349 (dk KX9_evening 163 rfl) (by decide) (fun hc => ?_) (fun hc => ?_)
    · have h := hO_t hc h
      refine X_aload_n 0 rfl (dk KX9_evening 198 rfl) ?_
      refine Y_getR 179 fX9_161 (Nat.le_of_ble_eq_true rfl) rfl rfl (dk KX9_evening 199 rfl) ?_
      refine X_bipush (dk KX9_evening 200 rfl) 60 (by decide) ?_
      refine X_iload_n 1 rfl (dk KX9_evening 201 rfl) ?_
      refine X_imul (dk KX9_evening 202 rfl) ?_
      refine X_iload_n 2 rfl (dk KX9_evening 203 rfl) ?_
      refine X_iadd (dk KX9_evening 204 rfl) ?_
      refine X_iload 4 rfl (dk KX9_evening 205 rfl) ?_
      refine Y_iast (Nat.le_of_ble_eq_true rfl) rfl (dk KX9_evening 206 rfl) h (fun hi31 h => ?_)
      exact Y_vret (dk KX9_evening 207 rfl) rfl h
    · have h := hO_f hc h
      refine X_aload_n 0 rfl (dk KX9_evening 164 rfl) ?_
      refine Y_getR 189 fX9_191 (Nat.le_of_ble_eq_true rfl) rfl rfl (dk KX9_evening 165 rfl) ?_
      refine X_iload 5 rfl (dk KX9_evening 166 rfl) ?_
      refine Y_iald (Nat.le_of_ble_eq_true rfl) rfl (dk KX9_evening 167 rfl) h (fun hi32 h => ?_)
      refine X_istore [(6, .int (gi σ 189 (x5 : Int32).toNatClampNeg)), (0, .ref 132), (1, .int x1), (2, .int x2), (3, .int x3), (4, .int x4), (5, .int x5)] (dk KX9_evening 168 rfl) (by decide) rfl ?_
      refine X_aload_n 1 rfl (dk KX9_evening 169 rfl) ?_
      refine Y_getR 162 fX9_107 (Nat.le_of_ble_eq_true rfl) rfl rfl (dk KX9_evening 170 rfl) ?_
      refine X_iload 0 rfl (dk KX9_evening 171 rfl) ?_
      refine Y_iald (Nat.le_of_ble_eq_true rfl) rfl (dk KX9_evening 172 rfl) h (fun hi33 h => ?_)
      refine X_iload 5 rfl (dk KX9_evening 173 rfl) ?_
      refine X_icmp_le 323 (dk KX9_evening 174 rfl) (by decide) (fun hc => ?_) (fun hc => ?_)
      · have h := hO_t hc h
        refine X_iload 5 rfl (dk KX9_evening 184 rfl) ?_
        refine X_aload_n 1 rfl (dk KX9_evening 185 rfl) ?_
        refine Y_getR 162 fX9_107 (Nat.le_of_ble_eq_true rfl) rfl rfl (dk KX9_evening 186 rfl) ?_
        refine X_iload 0 rfl (dk KX9_evening 187 rfl) ?_
        refine Y_iald (Nat.le_of_ble_eq_true rfl) rfl (dk KX9_evening 188 rfl) h (fun hi34 h => ?_)
        refine X_isub (dk KX9_evening 189 rfl) ?_
        refine X_istore [(4, .int (x4 - (gi σ 162 ((gi σ 189 (x5 : Int32).toNatClampNeg) : Int32).toNatClampNeg))), (6, .int (gi σ 189 (x5 : Int32).toNatClampNeg)), (0, .ref 132), (1, .int x1), (2, .int x2), (3, .int x3), (5, .int x5)] (dk KX9_evening 190 rfl) (by decide) rfl ?_
        refine X_aload_n 2 rfl (dk KX9_evening 191 rfl) ?_
        refine Y_getR 183 fX9_173 (Nat.le_of_ble_eq_true rfl) rfl rfl (dk KX9_evening 192 rfl) ?_
        refine X_iload 1 rfl (dk KX9_evening 193 rfl) ?_
        refine X_iconst (dk KX9_evening 194 rfl) 0 (by decide) ?_
        refine Y_iast (Nat.le_of_ble_eq_true rfl) rfl (dk KX9_evening 195 rfl) h (fun hi35 h => ?_)
        refine X_sub [(0, .ref 132), (1, .int x1), (2, .int x2), (3, .int x3), (4, .int (x4 - (gi σ 162 ((gi σ 189 (x5 : Int32).toNatClampNeg) : Int32).toNatClampNeg))), (5, .int x5)] [2, 3, 4, 5, 0, 6] rfl ?_
        exact tX9_evening_343 ih x1 x2 x3 (x4 - (gi σ 162 ((gi σ 189 (x5 : Int32).toNatClampNeg) : Int32).toNatClampNeg)) x5 (sI σ 183 ((gi σ 189 (x5 : Int32).toNatClampNeg) : Int32).toNatClampNeg 0) h
      · have h := hO_f hc h
        refine X_aload_n 1 rfl (dk KX9_evening 175 rfl) ?_
        refine Y_getR 183 fX9_173 (Nat.le_of_ble_eq_true rfl) rfl rfl (dk KX9_evening 176 rfl) ?_
        refine X_iload 0 rfl (dk KX9_evening 177 rfl) ?_
        refine X_dup2 (dk KX9_evening 178 rfl) rfl rfl ?_
        refine Y_iald (Nat.le_of_ble_eq_true rfl) rfl (dk KX9_evening 179 rfl) h (fun hi36 h => ?_)
        refine X_iconst (dk KX9_evening 180 rfl) 1 (by decide) ?_
        refine X_iadd (dk KX9_evening 181 rfl) ?_
        refine Y_iast (Nat.le_of_ble_eq_true rfl) rfl (dk KX9_evening 182 rfl) h (fun hi37 h => ?_)
        refine X_goto 343 (dk KX9_evening 183 rfl) (by decide) ?_
        refine X_sub [(0, .ref 132), (1, .int x1), (2, .int x2), (3, .int x3), (4, .int x4), (5, .int x5)] [1, 2, 3, 4, 5, 6] rfl ?_
        exact tX9_evening_343 ih x1 x2 x3 x4 x5 (sI σ 183 ((gi σ 189 (x5 : Int32).toNatClampNeg) : Int32).toNatClampNeg ((gi σ 183 ((gi σ 189 (x5 : Int32).toNatClampNeg) : Int32).toNatClampNeg) + 1)) h
def fX9_evening_279 (x1 : Int32) (x2 : Int32) (x3 : Int32) (x4 : Int32) (σ : PS) : Option (PS) := fX9_evening_282 FU x1 x2 x3 x4 0 σ
set_option maxRecDepth 100000 in
set_option maxHeartbeats 4000000 in
theorem tX9_evening_279 {P : PS → Prop} (x1 : Int32) (x2 : Int32) (x3 : Int32) (x4 : Int32) (σ : PS) (h : hO (fX9_evening_279 x1 x2 x3 x4 σ) P) : X g mX9_evening 3 0 0 (pV P) 279 [(0, .ref 132), (1, .int x1), (2, .int x2), (3, .int x3), (4, .int x4)] [] (HP σ) := by
  unfold fX9_evening_279 at h
  refine X_iconst (dk KX9_evening 159 rfl) 0 (by decide) ?_
  refine X_istore [(5, .int 0), (0, .ref 132), (1, .int x1), (2, .int x2), (3, .int x3), (4, .int x4)] (dk KX9_evening 160 rfl) (by decide) rfl ?_
  refine X_sub [(0, .ref 132), (1, .int x1), (2, .int x2), (3, .int x3), (4, .int x4), (5, .int 0)] [1, 2, 3, 4, 5, 0] rfl ?_
  exact tX9_evening_282 FU x1 x2 x3 x4 0 σ h
def fX9_evening_257 (x1 : Int32) (x2 : Int32) (x3 : Int32) (s0 : Int32) (σ : PS) : Option (PS) := gd (inb x1 8) ((if (s0 + (gi σ 158 (x1 : Int32).toNatClampNeg)) ≤ 200 then fX9_evening_279 x1 x2 x3 (s0 + (gi σ 158 (x1 : Int32).toNatClampNeg)) σ else fX9_evening_279 x1 x2 x3 200 σ))
set_option maxRecDepth 100000 in
set_option maxHeartbeats 4000000 in
theorem tX9_evening_257 {P : PS → Prop} (x1 : Int32) (x2 : Int32) (x3 : Int32) (s0 : Int32) (σ : PS) (h : hO (fX9_evening_257 x1 x2 x3 s0 σ) P) : X g mX9_evening 3 0 0 (pV P) 257 [(0, .ref 132), (1, .int x1), (2, .int x2), (3, .int x3)] [.int s0] (HP σ) := by
  unfold fX9_evening_257 at h
  refine X_aload_n 0 rfl (dk KX9_evening 148 rfl) ?_
  refine Y_getR 158 fX9_95 (Nat.le_of_ble_eq_true rfl) rfl rfl (dk KX9_evening 149 rfl) ?_
  refine X_iload_n 1 rfl (dk KX9_evening 150 rfl) ?_
  refine Y_iald (Nat.le_of_ble_eq_true rfl) rfl (dk KX9_evening 151 rfl) h (fun hi30 h => ?_)
  refine X_iadd (dk KX9_evening 152 rfl) ?_
  refine X_istore [(4, .int (s0 + (gi σ 158 (x1 : Int32).toNatClampNeg))), (0, .ref 132), (1, .int x1), (2, .int x2), (3, .int x3)] (dk KX9_evening 153 rfl) (by decide) rfl ?_
  refine X_iload 0 rfl (dk KX9_evening 154 rfl) ?_
  refine X_sipush (dk KX9_evening 155 rfl) 200 (by decide) ?_
  refine X_icmp_le 279 (dk KX9_evening 156 rfl) (by decide) (fun hc => ?_) (fun hc => ?_)
  · have h := hO_t hc h
    refine X_sub [(0, .ref 132), (1, .int x1), (2, .int x2), (3, .int x3), (4, .int (s0 + (gi σ 158 (x1 : Int32).toNatClampNeg)))] [1, 2, 3, 4, 0] rfl ?_
    exact tX9_evening_279 x1 x2 x3 (s0 + (gi σ 158 (x1 : Int32).toNatClampNeg)) σ h
  · have h := hO_f hc h
    refine X_sipush (dk KX9_evening 157 rfl) 200 (by decide) ?_
    refine X_istore [(4, .int 200), (0, .ref 132), (1, .int x1), (2, .int x2), (3, .int x3)] (dk KX9_evening 158 rfl) (by decide) rfl ?_
    refine X_sub [(0, .ref 132), (1, .int x1), (2, .int x2), (3, .int x3), (4, .int 200)] [1, 2, 3, 4, 0] rfl ?_
    exact tX9_evening_279 x1 x2 x3 200 σ h
def fX9_evening_230 (r149 : Int32 → Int32 → Int32 → Int32 → PS → Option (PS)) (x1 : Int32) (x2 : Int32) (x3 : Int32) (x4 : Int32) (σ : PS) : Option (PS) := r149 x1 x2 x3 (x4 + 1) σ
set_option maxRecDepth 100000 in
set_option maxHeartbeats 4000000 in
theorem tX9_evening_230 {P : PS → Prop} {r149 : Int32 → Int32 → Int32 → Int32 → PS → Option (PS)} (hr_149 : ∀ (x1 : Int32) (x2 : Int32) (x3 : Int32) (x4 : Int32) (σ : PS), hO (r149 x1 x2 x3 x4 σ) P → X g mX9_evening 3 0 0 (pV P) 149 [(0, .ref 132), (1, .int x1), (2, .int x2), (3, .int x3), (4, .int x4)] [] (HP σ)) (x1 : Int32) (x2 : Int32) (x3 : Int32) (x4 : Int32) (σ : PS) (h : hO (fX9_evening_230 r149 x1 x2 x3 x4 σ) P) : X g mX9_evening 3 0 0 (pV P) 230 [(0, .ref 132), (1, .int x1), (2, .int x2), (3, .int x3), (4, .int x4)] [] (HP σ) := by
  unfold fX9_evening_230 at h
  refine X_iinc 4 1 [(4, .int (x4 + 1)), (0, .ref 132), (1, .int x1), (2, .int x2), (3, .int x3)] (dk KX9_evening 132 rfl) rfl (by decide) (by decide) rfl ?_
  refine X_goto 149 (dk KX9_evening 133 rfl) (by decide) ?_
  refine X_sub [(0, .ref 132), (1, .int x1), (2, .int x2), (3, .int x3), (4, .int (x4 + 1))] [1, 2, 3, 4, 0] rfl ?_
  exact hr_149 x1 x2 x3 (x4 + 1) σ h
def fX9_evening_202 (r149 : Int32 → Int32 → Int32 → Int32 → PS → Option (PS)) (x1 : Int32) (x2 : Int32) (x3 : Int32) (x4 : Int32) (x5 : Int32) (s1 : Int32) (s2 : Int32) (σ : PS) : Option (PS) := gd (inb s1 360) (gd (inb x4 6) (gd (inb x1 8) ((if (gi (sI σ 173 (s1 : Int32).toNatClampNeg s2) 191 (x4 : Int32).toNatClampNeg) = (gi (sI σ 173 (s1 : Int32).toNatClampNeg s2) 159 (x1 : Int32).toNatClampNeg) then gd (inb x5 6) (gd (inb x5 6) (fX9_evening_230 r149 x1 x2 x3 x4 (sI (sI σ 173 (s1 : Int32).toNatClampNeg s2) 184 (x5 : Int32).toNatClampNeg ((gi (sI σ 173 (s1 : Int32).toNatClampNeg s2) 184 (x5 : Int32).toNatClampNeg) + 1)))) else fX9_evening_230 r149 x1 x2 x3 x4 (sI σ 173 (s1 : Int32).toNatClampNeg s2)))))
set_option maxRecDepth 100000 in
set_option maxHeartbeats 4000000 in
theorem tX9_evening_202 {P : PS → Prop} {r149 : Int32 → Int32 → Int32 → Int32 → PS → Option (PS)} (hr_149 : ∀ (x1 : Int32) (x2 : Int32) (x3 : Int32) (x4 : Int32) (σ : PS), hO (r149 x1 x2 x3 x4 σ) P → X g mX9_evening 3 0 0 (pV P) 149 [(0, .ref 132), (1, .int x1), (2, .int x2), (3, .int x3), (4, .int x4)] [] (HP σ)) (x1 : Int32) (x2 : Int32) (x3 : Int32) (x4 : Int32) (x5 : Int32) (s1 : Int32) (s2 : Int32) (σ : PS) (h : hO (fX9_evening_202 r149 x1 x2 x3 x4 x5 s1 s2 σ) P) : X g mX9_evening 3 0 0 (pV P) 202 [(0, .ref 132), (1, .int x1), (2, .int x2), (3, .int x3), (4, .int x4), (5, .int x5)] [.int s2, .int s1, .ref 173] (HP σ) := by
  unfold fX9_evening_202 at h
  refine Y_iast (Nat.le_of_ble_eq_true rfl) rfl (dk KX9_evening 114 rfl) h (fun hi25 h => ?_)
  refine X_aload_n 0 rfl (dk KX9_evening 115 rfl) ?_
  refine Y_getR 191 fX9_197 (Nat.le_of_ble_eq_true rfl) rfl rfl (dk KX9_evening 116 rfl) ?_
  refine X_iload 4 rfl (dk KX9_evening 117 rfl) ?_
  refine Y_iald (Nat.le_of_ble_eq_true rfl) rfl (dk KX9_evening 118 rfl) h (fun hi26 h => ?_)
  refine X_aload_n 0 rfl (dk KX9_evening 119 rfl) ?_
  refine Y_getR 159 fX9_98 (Nat.le_of_ble_eq_true rfl) rfl rfl (dk KX9_evening 120 rfl) ?_
  refine X_iload_n 1 rfl (dk KX9_evening 121 rfl) ?_
  refine Y_iald (Nat.le_of_ble_eq_true rfl) rfl (dk KX9_evening 122 rfl) h (fun hi27 h => ?_)
  refine X_icmp_ne 230 (dk KX9_evening 123 rfl) (by decide) (fun hc => ?_) (fun hc => ?_)
  · have h := hO_f hc h
    refine X_sub [(0, .ref 132), (1, .int x1), (2, .int x2), (3, .int x3), (4, .int x4)] [0, 1, 2, 3, 4] rfl ?_
    exact tX9_evening_230 hr_149 x1 x2 x3 x4 (sI σ 173 (s1 : Int32).toNatClampNeg s2) h
  · have h := hO_t hc h
    refine X_aload_n 0 rfl (dk KX9_evening 124 rfl) ?_
    refine Y_getR 184 fX9_176 (Nat.le_of_ble_eq_true rfl) rfl rfl (dk KX9_evening 125 rfl) ?_
    refine X_iload 5 rfl (dk KX9_evening 126 rfl) ?_
    refine X_dup2 (dk KX9_evening 127 rfl) rfl rfl ?_
    refine Y_iald (Nat.le_of_ble_eq_true rfl) rfl (dk KX9_evening 128 rfl) h (fun hi28 h => ?_)
    refine X_iconst (dk KX9_evening 129 rfl) 1 (by decide) ?_
    refine X_iadd (dk KX9_evening 130 rfl) ?_
    refine Y_iast (Nat.le_of_ble_eq_true rfl) rfl (dk KX9_evening 131 rfl) h (fun hi29 h => ?_)
    refine X_sub [(0, .ref 132), (1, .int x1), (2, .int x2), (3, .int x3), (4, .int x4)] [0, 1, 2, 3, 4] rfl ?_
    exact tX9_evening_230 hr_149 x1 x2 x3 x4 (sI (sI σ 173 (s1 : Int32).toNatClampNeg s2) 184 (x5 : Int32).toNatClampNeg ((gi (sI σ 173 (s1 : Int32).toNatClampNeg s2) 184 (x5 : Int32).toNatClampNeg) + 1)) h
def fX9_evening_149 : Nat → Int32 → Int32 → Int32 → Int32 → PS → Option (PS)
  | 0, _, _, _, _, _ => none
  | n + 1, x1, x2, x3, x4, σ => (if x3 ≤ x4 then (if x2 = 0 then fX9_evening_257 x1 x2 x3 0 σ else gd (inb (((60 * x1) + x2) - 1) 480) (fX9_evening_257 x1 x2 x3 (gi σ 179 ((((60 * x1) + x2) - 1) : Int32).toNatClampNeg) σ)) else gd (inb x4 6) (gd (inb x4 6) (gd (inb x1 8) ((if (gi σ 191 (x4 : Int32).toNatClampNeg) = (gi σ 159 (x1 : Int32).toNatClampNeg) then fX9_evening_202 (fX9_evening_149 n) x1 x2 x3 x4 (gi σ 189 (x4 : Int32).toNatClampNeg) ((60 * (gi σ 189 (x4 : Int32).toNatClampNeg)) + x2) (-1) σ else gd (inb x4 6) (fX9_evening_202 (fX9_evening_149 n) x1 x2 x3 x4 (gi σ 189 (x4 : Int32).toNatClampNeg) ((60 * (gi σ 189 (x4 : Int32).toNatClampNeg)) + x2) (gi σ 191 (x4 : Int32).toNatClampNeg) σ))))))
set_option maxRecDepth 100000 in
set_option maxHeartbeats 4000000 in
theorem tX9_evening_149 {P : PS → Prop} : ∀ (n : Nat) (x1 : Int32) (x2 : Int32) (x3 : Int32) (x4 : Int32) (σ : PS), hO (fX9_evening_149 n x1 x2 x3 x4 σ) P → X g mX9_evening 3 0 0 (pV P) 149 [(0, .ref 132), (1, .int x1), (2, .int x2), (3, .int x3), (4, .int x4)] [] (HP σ) := by
  intro n
  induction n with
  | zero =>
    intro x1 x2 x3 x4 σ h
    rw [fX9_evening_149] at h
    exact (hO_none h).elim
  | succ n ih =>
    intro x1 x2 x3 x4 σ h
    rw [fX9_evening_149] at h
    refine X_iload 4 rfl (dk KX9_evening 84 rfl) ?_
    refine X_iload_n 3 rfl (dk KX9_evening 85 rfl) ?_
    refine X_icmp_ge 236 (dk KX9_evening 86 rfl) (by decide) (fun hc => ?_) (fun hc => ?_)
    · have h := hO_t hc h
      refine X_iload_n 2 rfl (dk KX9_evening 134 rfl) ?_
      refine X_if_ne 244 (dk KX9_evening 135 rfl) (by decide) (fun hc => ?_) (fun hc => ?_)
      · have h := hO_f hc h
        refine X_aload_n 0 rfl (dk KX9_evening 138 rfl) ?_
        refine Y_getR 179 fX9_161 (Nat.le_of_ble_eq_true rfl) rfl rfl (dk KX9_evening 139 rfl) ?_
        refine X_bipush (dk KX9_evening 140 rfl) 60 (by decide) ?_
        refine X_iload_n 1 rfl (dk KX9_evening 141 rfl) ?_
        refine X_imul (dk KX9_evening 142 rfl) ?_
        refine X_iload_n 2 rfl (dk KX9_evening 143 rfl) ?_
        refine X_iadd (dk KX9_evening 144 rfl) ?_
        refine X_iconst (dk KX9_evening 145 rfl) 1 (by decide) ?_
        refine X_isub (dk KX9_evening 146 rfl) ?_
        refine Y_iald (Nat.le_of_ble_eq_true rfl) rfl (dk KX9_evening 147 rfl) h (fun hi19 h => ?_)
        refine X_sub [(0, .ref 132), (1, .int x1), (2, .int x2), (3, .int x3)] [0, 1, 2, 3] rfl ?_
        exact tX9_evening_257 x1 x2 x3 (gi σ 179 ((((60 * x1) + x2) - 1) : Int32).toNatClampNeg) σ h
      · have h := hO_t hc h
        refine X_iconst (dk KX9_evening 136 rfl) 0 (by decide) ?_
        refine X_goto 257 (dk KX9_evening 137 rfl) (by decide) ?_
        refine X_sub [(0, .ref 132), (1, .int x1), (2, .int x2), (3, .int x3)] [0, 1, 2, 3] rfl ?_
        exact tX9_evening_257 x1 x2 x3 0 σ h
    · have h := hO_f hc h
      refine X_aload_n 0 rfl (dk KX9_evening 87 rfl) ?_
      refine Y_getR 189 fX9_191 (Nat.le_of_ble_eq_true rfl) rfl rfl (dk KX9_evening 88 rfl) ?_
      refine X_iload 4 rfl (dk KX9_evening 89 rfl) ?_
      refine Y_iald (Nat.le_of_ble_eq_true rfl) rfl (dk KX9_evening 90 rfl) h (fun hi20 h => ?_)
      refine X_istore [(5, .int (gi σ 189 (x4 : Int32).toNatClampNeg)), (0, .ref 132), (1, .int x1), (2, .int x2), (3, .int x3), (4, .int x4)] (dk KX9_evening 91 rfl) (by decide) rfl ?_
      refine X_aload_n 1 rfl (dk KX9_evening 92 rfl) ?_
      refine Y_getR 173 fX9_143 (Nat.le_of_ble_eq_true rfl) rfl rfl (dk KX9_evening 93 rfl) ?_
      refine X_bipush (dk KX9_evening 94 rfl) 60 (by decide) ?_
      refine X_iload 0 rfl (dk KX9_evening 95 rfl) ?_
      refine X_imul (dk KX9_evening 96 rfl) ?_
      refine X_iload_n 3 rfl (dk KX9_evening 97 rfl) ?_
      refine X_iadd (dk KX9_evening 98 rfl) ?_
      refine X_aload_n 1 rfl (dk KX9_evening 99 rfl) ?_
      refine Y_getR 191 fX9_197 (Nat.le_of_ble_eq_true rfl) rfl rfl (dk KX9_evening 100 rfl) ?_
      refine X_iload 5 rfl (dk KX9_evening 101 rfl) ?_
      refine Y_iald (Nat.le_of_ble_eq_true rfl) rfl (dk KX9_evening 102 rfl) h (fun hi21 h => ?_)
      refine X_aload_n 1 rfl (dk KX9_evening 103 rfl) ?_
      refine Y_getR 159 fX9_98 (Nat.le_of_ble_eq_true rfl) rfl rfl (dk KX9_evening 104 rfl) ?_
      refine X_iload_n 2 rfl (dk KX9_evening 105 rfl) ?_
      refine Y_iald (Nat.le_of_ble_eq_true rfl) rfl (dk KX9_evening 106 rfl) h (fun hi22 h => ?_)
      refine X_icmp_ne 195 (dk KX9_evening 107 rfl) (by decide) (fun hc => ?_) (fun hc => ?_)
      · have h := hO_f hc h
        refine X_aload_n 1 rfl (dk KX9_evening 110 rfl) ?_
        refine Y_getR 191 fX9_197 (Nat.le_of_ble_eq_true rfl) rfl rfl (dk KX9_evening 111 rfl) ?_
        refine X_iload 5 rfl (dk KX9_evening 112 rfl) ?_
        refine Y_iald (Nat.le_of_ble_eq_true rfl) rfl (dk KX9_evening 113 rfl) h (fun hi23 h => ?_)
        refine X_sub [(0, .ref 132), (1, .int x1), (2, .int x2), (3, .int x3), (4, .int x4), (5, .int (gi σ 189 (x4 : Int32).toNatClampNeg))] [1, 2, 3, 4, 5, 0] rfl ?_
        exact tX9_evening_202 ih x1 x2 x3 x4 (gi σ 189 (x4 : Int32).toNatClampNeg) ((60 * (gi σ 189 (x4 : Int32).toNatClampNeg)) + x2) (gi σ 191 (x4 : Int32).toNatClampNeg) σ h
      · have h := hO_t hc h
        refine X_iconst (dk KX9_evening 108 rfl) (-1) (by decide) ?_
        refine X_goto 202 (dk KX9_evening 109 rfl) (by decide) ?_
        refine X_sub [(0, .ref 132), (1, .int x1), (2, .int x2), (3, .int x3), (4, .int x4), (5, .int (gi σ 189 (x4 : Int32).toNatClampNeg))] [1, 2, 3, 4, 5, 0] rfl ?_
        exact tX9_evening_202 ih x1 x2 x3 x4 (gi σ 189 (x4 : Int32).toNatClampNeg) ((60 * (gi σ 189 (x4 : Int32).toNatClampNeg)) + x2) (-1) σ h
def fX9_evening_134 (r5 : Int32 → Int32 → Int32 → Int32 → PS → Option (PS)) (x1 : Int32) (x2 : Int32) (x3 : Int32) (x4 : Int32) (σ : PS) : Option (PS) := r5 x1 x2 x3 (x4 + 1) σ
set_option maxRecDepth 100000 in
set_option maxHeartbeats 4000000 in
theorem tX9_evening_134 {P : PS → Prop} {r5 : Int32 → Int32 → Int32 → Int32 → PS → Option (PS)} (hr_5 : ∀ (x1 : Int32) (x2 : Int32) (x3 : Int32) (x4 : Int32) (σ : PS), hO (r5 x1 x2 x3 x4 σ) P → X g mX9_evening 3 0 0 (pV P) 5 [(0, .ref 132), (1, .int x1), (2, .int x2), (3, .int x3), (4, .int x4)] [] (HP σ)) (x1 : Int32) (x2 : Int32) (x3 : Int32) (x4 : Int32) (σ : PS) (h : hO (fX9_evening_134 r5 x1 x2 x3 x4 σ) P) : X g mX9_evening 3 0 0 (pV P) 134 [(0, .ref 132), (1, .int x1), (2, .int x2), (3, .int x3), (4, .int x4)] [] (HP σ) := by
  unfold fX9_evening_134 at h
  refine X_iinc 4 1 [(4, .int (x4 + 1)), (0, .ref 132), (1, .int x1), (2, .int x2), (3, .int x3)] (dk KX9_evening 76 rfl) rfl (by decide) (by decide) rfl ?_
  refine X_goto 5 (dk KX9_evening 77 rfl) (by decide) ?_
  refine X_sub [(0, .ref 132), (1, .int x1), (2, .int x2), (3, .int x3), (4, .int (x4 + 1))] [1, 2, 3, 4, 0] rfl ?_
  exact hr_5 x1 x2 x3 (x4 + 1) σ h
def fX9_evening_122 (r5 : Int32 → Int32 → Int32 → Int32 → PS → Option (PS)) (x1 : Int32) (x2 : Int32) (x3 : Int32) (x4 : Int32) (x5 : Int32) (σ : PS) : Option (PS) := gd (inb x5 6) (fX9_evening_134 r5 x1 x2 (x3 + 1) x4 (sI σ 189 (x5 : Int32).toNatClampNeg x4))
set_option maxRecDepth 100000 in
set_option maxHeartbeats 4000000 in
theorem tX9_evening_122 {P : PS → Prop} {r5 : Int32 → Int32 → Int32 → Int32 → PS → Option (PS)} (hr_5 : ∀ (x1 : Int32) (x2 : Int32) (x3 : Int32) (x4 : Int32) (σ : PS), hO (r5 x1 x2 x3 x4 σ) P → X g mX9_evening 3 0 0 (pV P) 5 [(0, .ref 132), (1, .int x1), (2, .int x2), (3, .int x3), (4, .int x4)] [] (HP σ)) (x1 : Int32) (x2 : Int32) (x3 : Int32) (x4 : Int32) (x5 : Int32) (σ : PS) (h : hO (fX9_evening_122 r5 x1 x2 x3 x4 x5 σ) P) : X g mX9_evening 3 0 0 (pV P) 122 [(0, .ref 132), (1, .int x1), (2, .int x2), (3, .int x3), (4, .int x4), (5, .int x5)] [] (HP σ) := by
  unfold fX9_evening_122 at h
  refine X_aload_n 0 rfl (dk KX9_evening 70 rfl) ?_
  refine Y_getR 189 fX9_191 (Nat.le_of_ble_eq_true rfl) rfl rfl (dk KX9_evening 71 rfl) ?_
  refine X_iload 5 rfl (dk KX9_evening 72 rfl) ?_
  refine X_iload 4 rfl (dk KX9_evening 73 rfl) ?_
  refine Y_iast (Nat.le_of_ble_eq_true rfl) rfl (dk KX9_evening 74 rfl) h (fun hi24 h => ?_)
  refine X_iinc 3 1 [(3, .int (x3 + 1)), (0, .ref 132), (1, .int x1), (2, .int x2), (4, .int x4), (5, .int x5)] (dk KX9_evening 75 rfl) rfl (by decide) (by decide) rfl ?_
  refine X_sub [(0, .ref 132), (1, .int x1), (2, .int x2), (3, .int (x3 + 1)), (4, .int x4)] [1, 2, 3, 0, 4] rfl ?_
  exact tX9_evening_134 hr_5 x1 x2 (x3 + 1) x4 (sI σ 189 (x5 : Int32).toNatClampNeg x4) h
def fX9_evening_71 (r5 : Int32 → Int32 → Int32 → Int32 → PS → Option (PS)) : Nat → Int32 → Int32 → Int32 → Int32 → Int32 → PS → Option (PS)
  | 0, _, _, _, _, _, _ => none
  | n + 1, x1, x2, x3, x4, x5, σ => (if x5 ≤ 0 then fX9_evening_122 r5 x1 x2 x3 x4 x5 σ else gd (inb (x5 - 1) 6) (gd (inb (gi σ 189 ((x5 - 1) : Int32).toNatClampNeg) 6) (gd (inb x4 6) ((if (gi σ 192 (x4 : Int32).toNatClampNeg) ≤ (gi σ 192 ((gi σ 189 ((x5 - 1) : Int32).toNatClampNeg) : Int32).toNatClampNeg) then fX9_evening_122 r5 x1 x2 x3 x4 x5 σ else gd (inb (x5 - 1) 6) (gd (inb x5 6) (fX9_evening_71 r5 n x1 x2 x3 x4 (x5 + (-1)) (sI σ 189 (x5 : Int32).toNatClampNeg (gi σ 189 ((x5 - 1) : Int32).toNatClampNeg)))))))))
set_option maxRecDepth 100000 in
set_option maxHeartbeats 4000000 in
theorem tX9_evening_71 {P : PS → Prop} {r5 : Int32 → Int32 → Int32 → Int32 → PS → Option (PS)} (hr_5 : ∀ (x1 : Int32) (x2 : Int32) (x3 : Int32) (x4 : Int32) (σ : PS), hO (r5 x1 x2 x3 x4 σ) P → X g mX9_evening 3 0 0 (pV P) 5 [(0, .ref 132), (1, .int x1), (2, .int x2), (3, .int x3), (4, .int x4)] [] (HP σ)) : ∀ (n : Nat) (x1 : Int32) (x2 : Int32) (x3 : Int32) (x4 : Int32) (x5 : Int32) (σ : PS), hO (fX9_evening_71 r5 n x1 x2 x3 x4 x5 σ) P → X g mX9_evening 3 0 0 (pV P) 71 [(0, .ref 132), (1, .int x1), (2, .int x2), (3, .int x3), (4, .int x4), (5, .int x5)] [] (HP σ) := by
  intro n
  induction n with
  | zero =>
    intro x1 x2 x3 x4 x5 σ h
    rw [fX9_evening_71] at h
    exact (hO_none h).elim
  | succ n ih =>
    intro x1 x2 x3 x4 x5 σ h
    rw [fX9_evening_71] at h
    refine X_iload 5 rfl (dk KX9_evening 42 rfl) ?_
    refine X_if_le 122 (dk KX9_evening 43 rfl) (by decide) (fun hc => ?_) (fun hc => ?_)
    · have h := hO_t hc h
      exact tX9_evening_122 hr_5 x1 x2 x3 x4 x5 σ h
    · have h := hO_f hc h
      refine X_aload_n 0 rfl (dk KX9_evening 44 rfl) ?_
      refine Y_getR 192 fX9_200 (Nat.le_of_ble_eq_true rfl) rfl rfl (dk KX9_evening 45 rfl) ?_
      refine X_aload_n 0 rfl (dk KX9_evening 46 rfl) ?_
      refine Y_getR 189 fX9_191 (Nat.le_of_ble_eq_true rfl) rfl rfl (dk KX9_evening 47 rfl) ?_
      refine X_iload 5 rfl (dk KX9_evening 48 rfl) ?_
      refine X_iconst (dk KX9_evening 49 rfl) 1 (by decide) ?_
      refine X_isub (dk KX9_evening 50 rfl) ?_
      refine Y_iald (Nat.le_of_ble_eq_true rfl) rfl (dk KX9_evening 51 rfl) h (fun hi14 h => ?_)
      refine Y_iald (Nat.le_of_ble_eq_true rfl) rfl (dk KX9_evening 52 rfl) h (fun hi15 h => ?_)
      refine X_aload_n 0 rfl (dk KX9_evening 53 rfl) ?_
      refine Y_getR 192 fX9_200 (Nat.le_of_ble_eq_true rfl) rfl rfl (dk KX9_evening 54 rfl) ?_
      refine X_iload 4 rfl (dk KX9_evening 55 rfl) ?_
      refine Y_iald (Nat.le_of_ble_eq_true rfl) rfl (dk KX9_evening 56 rfl) h (fun hi16 h => ?_)
      refine X_icmp_ge 122 (dk KX9_evening 57 rfl) (by decide) (fun hc => ?_) (fun hc => ?_)
      · have h := hO_t hc h
        exact tX9_evening_122 hr_5 x1 x2 x3 x4 x5 σ h
      · have h := hO_f hc h
        refine X_aload_n 0 rfl (dk KX9_evening 58 rfl) ?_
        refine Y_getR 189 fX9_191 (Nat.le_of_ble_eq_true rfl) rfl rfl (dk KX9_evening 59 rfl) ?_
        refine X_iload 5 rfl (dk KX9_evening 60 rfl) ?_
        refine X_aload_n 0 rfl (dk KX9_evening 61 rfl) ?_
        refine Y_getR 189 fX9_191 (Nat.le_of_ble_eq_true rfl) rfl rfl (dk KX9_evening 62 rfl) ?_
        refine X_iload 5 rfl (dk KX9_evening 63 rfl) ?_
        refine X_iconst (dk KX9_evening 64 rfl) 1 (by decide) ?_
        refine X_isub (dk KX9_evening 65 rfl) ?_
        refine Y_iald (Nat.le_of_ble_eq_true rfl) rfl (dk KX9_evening 66 rfl) h (fun hi17 h => ?_)
        refine Y_iast (Nat.le_of_ble_eq_true rfl) rfl (dk KX9_evening 67 rfl) h (fun hi18 h => ?_)
        refine X_iinc 5 (-1) [(5, .int (x5 + (-1))), (0, .ref 132), (1, .int x1), (2, .int x2), (3, .int x3), (4, .int x4)] (dk KX9_evening 68 rfl) rfl (by decide) (by decide) rfl ?_
        refine X_goto 71 (dk KX9_evening 69 rfl) (by decide) ?_
        refine X_sub [(0, .ref 132), (1, .int x1), (2, .int x2), (3, .int x3), (4, .int x4), (5, .int (x5 + (-1)))] [1, 2, 3, 4, 5, 0] rfl ?_
        exact ih x1 x2 x3 x4 (x5 + (-1)) (sI σ 189 (x5 : Int32).toNatClampNeg (gi σ 189 ((x5 - 1) : Int32).toNatClampNeg)) h
def fX9_evening_5 : Nat → Int32 → Int32 → Int32 → Int32 → PS → Option (PS)
  | 0, _, _, _, _, _ => none
  | n + 1, x1, x2, x3, x4, σ => (if (gi σ 132 44) ≤ x4 then (fX9_lays x1 x3 σ).bind (fun σ2 => fX9_evening_149 FU x1 x2 x3 0 σ2) else gd (inb x4 6) ((if (gi σ 182 (x4 : Int32).toNatClampNeg) = x1 then (fX9_asks x4 x2 x1 σ).bind (fun σ6 => (fX9_says 0 (-1) σ6).bind (fun qy8 => (fun (y8 : Int32) (σ9 : PS) => gd (inb x4 6) (gd (inb x4 6) (gd (inb ((60 * x4) + x2) 360) (fX9_evening_71 (fX9_evening_5 n) FU x1 x2 x3 x4 x3 (sI (sI σ9 192 (x4 : Int32).toNatClampNeg y8) 177 (((60 * x4) + x2) : Int32).toNatClampNeg (gi (sI σ9 192 (x4 : Int32).toNatClampNeg y8) 192 (x4 : Int32).toNatClampNeg)))))) qy8.1 qy8.2)) else fX9_evening_134 (fX9_evening_5 n) x1 x2 x3 x4 σ)))
set_option maxRecDepth 100000 in
set_option maxHeartbeats 4000000 in
theorem tX9_evening_5 {P : PS → Prop} : ∀ (n : Nat) (x1 : Int32) (x2 : Int32) (x3 : Int32) (x4 : Int32) (σ : PS), hO (fX9_evening_5 n x1 x2 x3 x4 σ) P → X g mX9_evening 3 0 0 (pV P) 5 [(0, .ref 132), (1, .int x1), (2, .int x2), (3, .int x3), (4, .int x4)] [] (HP σ) := by
  intro n
  induction n with
  | zero =>
    intro x1 x2 x3 x4 σ h
    rw [fX9_evening_5] at h
    exact (hO_none h).elim
  | succ n ih =>
    intro x1 x2 x3 x4 σ h
    rw [fX9_evening_5] at h
    refine X_iload 4 rfl (dk KX9_evening 4 rfl) ?_
    refine X_aload_n 0 rfl (dk KX9_evening 5 rfl) ?_
    refine Y_getI fX9_312 (Nat.le_of_ble_eq_true rfl) rfl (dk KX9_evening 6 rfl) ?_
    refine X_icmp_ge 140 (dk KX9_evening 7 rfl) (by decide) (fun hc => ?_) (fun hc => ?_)
    · have h := hO_t hc h
      refine X_aload_n 0 rfl (dk KX9_evening 78 rfl) ?_
      refine X_iload_n 1 rfl (dk KX9_evening 79 rfl) ?_
      refine X_iload_n 3 rfl (dk KX9_evening 80 rfl) ?_
      refine Y_callVV wX9_356 (Nat.le_of_ble_eq_true rfl) rfl [.int x1, .int x3] [] rfl rfl (Nat.le_of_ble_eq_true rfl) (Nat.le_of_ble_eq_true rfl) (dk KX9_evening 81 rfl) (fun Pc h => okX9_lays _ _ _ Pc h) h (fun σ2 e3 h => ?_)
      try dsimp only at h
      refine X_iconst (dk KX9_evening 82 rfl) 0 (by decide) ?_
      refine X_istore [(4, .int 0), (0, .ref 132), (1, .int x1), (2, .int x2), (3, .int x3)] (dk KX9_evening 83 rfl) (by decide) rfl ?_
      refine X_sub [(0, .ref 132), (1, .int x1), (2, .int x2), (3, .int x3), (4, .int 0)] [1, 2, 3, 4, 0] rfl ?_
      exact tX9_evening_149 FU x1 x2 x3 0 σ2 h
    · have h := hO_f hc h
      refine X_aload_n 0 rfl (dk KX9_evening 8 rfl) ?_
      refine Y_getR 182 fX9_170 (Nat.le_of_ble_eq_true rfl) rfl rfl (dk KX9_evening 9 rfl) ?_
      refine X_iload 4 rfl (dk KX9_evening 10 rfl) ?_
      refine Y_iald (Nat.le_of_ble_eq_true rfl) rfl (dk KX9_evening 11 rfl) h (fun hi4 h => ?_)
      refine X_iload_n 1 rfl (dk KX9_evening 12 rfl) ?_
      refine X_icmp_eq 28 (dk KX9_evening 13 rfl) (by decide) (fun hc => ?_) (fun hc => ?_)
      · have h := hO_t hc h
        refine X_aload_n 0 rfl (dk KX9_evening 15 rfl) ?_
        refine X_iload 4 rfl (dk KX9_evening 16 rfl) ?_
        refine X_iload_n 2 rfl (dk KX9_evening 17 rfl) ?_
        refine X_iload_n 1 rfl (dk KX9_evening 18 rfl) ?_
        refine Y_callVV wX9_346 (Nat.le_of_ble_eq_true rfl) rfl [.int x4, .int x2, .int x1] [] rfl rfl (Nat.le_of_ble_eq_true rfl) (Nat.le_of_ble_eq_true rfl) (dk KX9_evening 19 rfl) (fun Pc h => okX9_asks _ _ _ _ Pc h) h (fun σ6 e7 h => ?_)
        try dsimp only at h
        refine X_aload_n 0 rfl (dk KX9_evening 20 rfl) ?_
        refine Y_getR 192 fX9_200 (Nat.le_of_ble_eq_true rfl) rfl rfl (dk KX9_evening 21 rfl) ?_
        refine X_iload 4 rfl (dk KX9_evening 22 rfl) ?_
        refine X_aload_n 0 rfl (dk KX9_evening 23 rfl) ?_
        refine X_iconst (dk KX9_evening 24 rfl) 0 (by decide) ?_
        refine X_iconst (dk KX9_evening 25 rfl) (-1) (by decide) ?_
        refine Y_callVI wX9_353 (Nat.le_of_ble_eq_true rfl) rfl [.int 0, .int (-1)] [.int x4, .ref 192] rfl rfl (Nat.le_of_ble_eq_true rfl) (Nat.le_of_ble_eq_true rfl) (dk KX9_evening 26 rfl) (fun Pc h => okX9_says _ _ _ Pc h) h (fun y8 σ9 e10 h => ?_)
        try dsimp only at h
        refine Y_iast (Nat.le_of_ble_eq_true rfl) rfl (dk KX9_evening 27 rfl) h (fun hi11 h => ?_)
        refine X_aload_n 0 rfl (dk KX9_evening 28 rfl) ?_
        refine Y_getR 177 fX9_155 (Nat.le_of_ble_eq_true rfl) rfl rfl (dk KX9_evening 29 rfl) ?_
        refine X_bipush (dk KX9_evening 30 rfl) 60 (by decide) ?_
        refine X_iload 4 rfl (dk KX9_evening 31 rfl) ?_
        refine X_imul (dk KX9_evening 32 rfl) ?_
        refine X_iload_n 2 rfl (dk KX9_evening 33 rfl) ?_
        refine X_iadd (dk KX9_evening 34 rfl) ?_
        refine X_aload_n 0 rfl (dk KX9_evening 35 rfl) ?_
        refine Y_getR 192 fX9_200 (Nat.le_of_ble_eq_true rfl) rfl rfl (dk KX9_evening 36 rfl) ?_
        refine X_iload 4 rfl (dk KX9_evening 37 rfl) ?_
        refine Y_iald (Nat.le_of_ble_eq_true rfl) rfl (dk KX9_evening 38 rfl) h (fun hi12 h => ?_)
        refine Y_iast (Nat.le_of_ble_eq_true rfl) rfl (dk KX9_evening 39 rfl) h (fun hi13 h => ?_)
        refine X_iload_n 3 rfl (dk KX9_evening 40 rfl) ?_
        refine X_istore [(5, .int x3), (0, .ref 132), (1, .int x1), (2, .int x2), (3, .int x3), (4, .int x4)] (dk KX9_evening 41 rfl) (by decide) rfl ?_
        refine X_sub [(0, .ref 132), (1, .int x1), (2, .int x2), (3, .int x3), (4, .int x4), (5, .int x3)] [1, 2, 3, 4, 5, 0] rfl ?_
        exact tX9_evening_71 ih FU x1 x2 x3 x4 x3 (sI (sI σ9 192 (x4 : Int32).toNatClampNeg y8) 177 (((60 * x4) + x2) : Int32).toNatClampNeg (gi (sI σ9 192 (x4 : Int32).toNatClampNeg y8) 192 (x4 : Int32).toNatClampNeg)) h
      · have h := hO_f hc h
        refine X_goto 134 (dk KX9_evening 14 rfl) (by decide) ?_
        exact tX9_evening_134 ih x1 x2 x3 x4 σ h
def fX9_evening (a1 : Int32) (a2 : Int32) (σ : PS) : Option (PS) := fX9_evening_5 FU a1 a2 0 0 σ
set_option maxRecDepth 100000 in
set_option maxHeartbeats 4000000 in
theorem okX9_evening (a1 : Int32) (a2 : Int32) (σ : PS) (P : PS → Prop) (h : hO (fX9_evening a1 a2 σ) P) : CON g mX9_evening 3 0 0 [.ref 132, .int a1, .int a2] (HP σ) (pV P) := by
  refine CON.of (by decide) (by simp [lg_sl, Value.category]) ?_
  show X g _ _ _ _ _ 0 [(0, .ref 132), (1, .int a1), (2, .int a2)] [] _
  unfold fX9_evening at h
  refine X_iconst (dk KX9_evening 0 rfl) 0 (by decide) ?_
  refine X_istore_n [(3, .int 0), (0, .ref 132), (1, .int a1), (2, .int a2)] (dk KX9_evening 1 rfl) (by decide) rfl ?_
  refine X_iconst (dk KX9_evening 2 rfl) 0 (by decide) ?_
  refine X_istore [(4, .int 0), (3, .int 0), (0, .ref 132), (1, .int a1), (2, .int a2)] (dk KX9_evening 3 rfl) (by decide) rfl ?_
  refine X_sub [(0, .ref 132), (1, .int a1), (2, .int a2), (3, .int 0), (4, .int 0)] [2, 3, 4, 1, 0] rfl ?_
  exact tX9_evening_5 FU a1 a2 0 0 σ h

def fX9_morning_78 (x1 : Int32) (x2 : Int32) (x3 : Int32) (s0 : Int32) (σ : PS) : Option (PS) := (fX9_asks x1 x2 x3 σ).bind (fun σ10 => gd (inb x3 8) ((fX9_barOf (gi σ10 156 (x3 : Int32).toNatClampNeg) σ10).bind (fun qy13 => (fun (y13 : Int32) (σ14 : PS) => gd (inb ((60 * x1) + x2) 360) (gd (inb ((60 * x1) + x2) 360) ((if (gi (sI σ14 178 (((60 * x1) + x2) : Int32).toNatClampNeg y13) 178 (((60 * x1) + x2) : Int32).toNatClampNeg) = (-1) then gd (inb ((60 * s0) + x2) 480) ((if (gi (sI σ14 178 (((60 * x1) + x2) : Int32).toNatClampNeg y13) 181 (((60 * s0) + x2) : Int32).toNatClampNeg) = 0 then gd (inb x1 6) ((if (gi (sI σ14 178 (((60 * x1) + x2) : Int32).toNatClampNeg y13) 183 (x1 : Int32).toNatClampNeg) ≤ 2 then gd (inb x3 8) (gd (inb x1 6) (gd (inb (gi (sI σ14 178 (((60 * x1) + x2) : Int32).toNatClampNeg y13) 182 (x1 : Int32).toNatClampNeg) 8) ((if (gi (sI σ14 178 (((60 * x1) + x2) : Int32).toNatClampNeg y13) 156 (x3 : Int32).toNatClampNeg) = (gi (sI σ14 178 (((60 * x1) + x2) : Int32).toNatClampNeg y13) 156 ((gi (sI σ14 178 (((60 * x1) + x2) : Int32).toNatClampNeg y13) 182 (x1 : Int32).toNatClampNeg) : Int32).toNatClampNeg) then gd (inb x1 6) (some (sI (sI σ14 178 (((60 * x1) + x2) : Int32).toNatClampNeg y13) 182 (x1 : Int32).toNatClampNeg x3)) else gd (inb x3 8) ((fX9_says 1 (gi (sI σ14 178 (((60 * x1) + x2) : Int32).toNatClampNeg y13) 156 (x3 : Int32).toNatClampNeg) (sI σ14 178 (((60 * x1) + x2) : Int32).toNatClampNeg y13)).bind (fun qy25 => (fun (y25 : Int32) (σ26 : PS) => (if y25 ≤ 0 then gd (inb x1 6) (some (sI σ26 182 (x1 : Int32).toNatClampNeg x3)) else gd (inb x1 6) (gd (inb x1 6) (gd (inb x3 8) (gd (inb (gi (sI σ26 185 (x1 : Int32).toNatClampNeg ((gi σ26 185 (x1 : Int32).toNatClampNeg) + y25)) 156 (x3 : Int32).toNatClampNeg) 5) (gd (inb (gi (sI σ26 185 (x1 : Int32).toNatClampNeg ((gi σ26 185 (x1 : Int32).toNatClampNeg) + y25)) 156 (x3 : Int32).toNatClampNeg) 5) (gd (inb x1 6) (some (sI (sI (sI σ26 185 (x1 : Int32).toNatClampNeg ((gi σ26 185 (x1 : Int32).toNatClampNeg) + y25)) 186 ((gi (sI σ26 185 (x1 : Int32).toNatClampNeg ((gi σ26 185 (x1 : Int32).toNatClampNeg) + y25)) 156 (x3 : Int32).toNatClampNeg) : Int32).toNatClampNeg ((gi (sI σ26 185 (x1 : Int32).toNatClampNeg ((gi σ26 185 (x1 : Int32).toNatClampNeg) + y25)) 186 ((gi (sI σ26 185 (x1 : Int32).toNatClampNeg ((gi σ26 185 (x1 : Int32).toNatClampNeg) + y25)) 156 (x3 : Int32).toNatClampNeg) : Int32).toNatClampNeg) + y25)) 182 (x1 : Int32).toNatClampNeg x3))))))))) qy25.1 qy25.2)))))) else some (sI σ14 178 (((60 * x1) + x2) : Int32).toNatClampNeg y13))) else some (sI σ14 178 (((60 * x1) + x2) : Int32).toNatClampNeg y13))) else some (sI σ14 178 (((60 * x1) + x2) : Int32).toNatClampNeg y13))))) qy13.1 qy13.2)))
set_option maxRecDepth 100000 in
set_option maxHeartbeats 4000000 in
theorem tX9_morning_78 {P : PS → Prop} (x1 : Int32) (x2 : Int32) (x3 : Int32) (s0 : Int32) (σ : PS) (h : hO (fX9_morning_78 x1 x2 x3 s0 σ) P) : X g mX9_morning 3 0 0 (pV P) 78 [(0, .ref 132), (1, .int x1), (2, .int x2), (3, .int x3)] [.int s0] (HP σ) := by
  unfold fX9_morning_78 at h
  refine X_istore [(4, .int s0), (0, .ref 132), (1, .int x1), (2, .int x2), (3, .int x3)] (dk KX9_morning 51 rfl) (by decide) rfl ?_
  refine X_aload_n 1 rfl (dk KX9_morning 52 rfl) ?_
  refine X_iload_n 2 rfl (dk KX9_morning 53 rfl) ?_
  refine X_iload_n 3 rfl (dk KX9_morning 54 rfl) ?_
  refine X_iload_n 4 rfl (dk KX9_morning 55 rfl) ?_
  refine Y_callVV wX9_346 (Nat.le_of_ble_eq_true rfl) rfl [.int x1, .int x2, .int x3] [] rfl rfl (Nat.le_of_ble_eq_true rfl) (Nat.le_of_ble_eq_true rfl) (dk KX9_morning 56 rfl) (fun Pc h => okX9_asks _ _ _ _ Pc h) h (fun σ10 e11 h => ?_)
  try dsimp only at h
  refine X_aload_n 1 rfl (dk KX9_morning 57 rfl) ?_
  refine Y_getR 178 fX9_158 (Nat.le_of_ble_eq_true rfl) rfl rfl (dk KX9_morning 58 rfl) ?_
  refine X_bipush (dk KX9_morning 59 rfl) 60 (by decide) ?_
  refine X_iload_n 2 rfl (dk KX9_morning 60 rfl) ?_
  refine X_imul (dk KX9_morning 61 rfl) ?_
  refine X_iload_n 3 rfl (dk KX9_morning 62 rfl) ?_
  refine X_iadd (dk KX9_morning 63 rfl) ?_
  refine X_aload_n 1 rfl (dk KX9_morning 64 rfl) ?_
  refine X_aload_n 1 rfl (dk KX9_morning 65 rfl) ?_
  refine Y_getR 156 fX9_89 (Nat.le_of_ble_eq_true rfl) rfl rfl (dk KX9_morning 66 rfl) ?_
  refine X_iload_n 4 rfl (dk KX9_morning 67 rfl) ?_
  refine Y_iald (Nat.le_of_ble_eq_true rfl) rfl (dk KX9_morning 68 rfl) h (fun hi12 h => ?_)
  refine Y_callVI wX9_350 (Nat.le_of_ble_eq_true rfl) rfl [.int (gi σ10 156 (x3 : Int32).toNatClampNeg)] [.int ((60 * x1) + x2), .ref 178] rfl rfl (Nat.le_of_ble_eq_true rfl) (Nat.le_of_ble_eq_true rfl) (dk KX9_morning 69 rfl) (fun Pc h => okX9_barOf _ _ Pc h) h (fun y13 σ14 e15 h => ?_)
  try dsimp only at h
  refine Y_iast (Nat.le_of_ble_eq_true rfl) rfl (dk KX9_morning 70 rfl) h (fun hi16 h => ?_)
  refine X_aload_n 1 rfl (dk KX9_morning 71 rfl) ?_
  refine Y_getR 178 fX9_158 (Nat.le_of_ble_eq_true rfl) rfl rfl (dk KX9_morning 72 rfl) ?_
  refine X_bipush (dk KX9_morning 73 rfl) 60 (by decide) ?_
  refine X_iload_n 2 rfl (dk KX9_morning 74 rfl) ?_
  refine X_imul (dk KX9_morning 75 rfl) ?_
  refine X_iload_n 3 rfl (dk KX9_morning 76 rfl) ?_
  refine X_iadd (dk KX9_morning 77 rfl) ?_
  refine Y_iald (Nat.le_of_ble_eq_true rfl) rfl (dk KX9_morning 78 rfl) h (fun hi17 h => ?_)
  refine X_iconst (dk KX9_morning 79 rfl) (-1) (by decide) ?_
  refine X_icmp_ne 148 (dk KX9_morning 80 rfl) (by decide) (fun hc => ?_) (fun hc => ?_)
  · have h := hO_f hc h
    exact Y_vret (dk KX9_morning 96 rfl) rfl h
  · have h := hO_t hc h
    refine X_aload_n 1 rfl (dk KX9_morning 81 rfl) ?_
    refine Y_getR 181 fX9_167 (Nat.le_of_ble_eq_true rfl) rfl rfl (dk KX9_morning 82 rfl) ?_
    refine X_bipush (dk KX9_morning 83 rfl) 60 (by decide) ?_
    refine X_iload 0 rfl (dk KX9_morning 84 rfl) ?_
    refine X_imul (dk KX9_morning 85 rfl) ?_
    refine X_iload_n 3 rfl (dk KX9_morning 86 rfl) ?_
    refine X_iadd (dk KX9_morning 87 rfl) ?_
    refine Y_zald (Nat.le_of_ble_eq_true rfl) rfl (dk KX9_morning 88 rfl) h (fun hi18 h => ?_)
    refine X_if_ne 148 (dk KX9_morning 89 rfl) (by decide) (fun hc => ?_) (fun hc => ?_)
    · have h := hO_f hc h
      exact Y_vret (dk KX9_morning 96 rfl) rfl h
    · have h := hO_t hc h
      refine X_aload_n 1 rfl (dk KX9_morning 90 rfl) ?_
      refine Y_getR 183 fX9_173 (Nat.le_of_ble_eq_true rfl) rfl rfl (dk KX9_morning 91 rfl) ?_
      refine X_iload_n 2 rfl (dk KX9_morning 92 rfl) ?_
      refine Y_iald (Nat.le_of_ble_eq_true rfl) rfl (dk KX9_morning 93 rfl) h (fun hi19 h => ?_)
      refine X_iconst (dk KX9_morning 94 rfl) 2 (by decide) ?_
      refine X_icmp_le 149 (dk KX9_morning 95 rfl) (by decide) (fun hc => ?_) (fun hc => ?_)
      · have h := hO_t hc h
        refine X_aload_n 1 rfl (dk KX9_morning 97 rfl) ?_
        refine Y_getR 156 fX9_89 (Nat.le_of_ble_eq_true rfl) rfl rfl (dk KX9_morning 98 rfl) ?_
        refine X_iload_n 4 rfl (dk KX9_morning 99 rfl) ?_
        refine Y_iald (Nat.le_of_ble_eq_true rfl) rfl (dk KX9_morning 100 rfl) h (fun hi20 h => ?_)
        refine X_aload_n 1 rfl (dk KX9_morning 101 rfl) ?_
        refine Y_getR 156 fX9_89 (Nat.le_of_ble_eq_true rfl) rfl rfl (dk KX9_morning 102 rfl) ?_
        refine X_aload_n 1 rfl (dk KX9_morning 103 rfl) ?_
        refine Y_getR 182 fX9_170 (Nat.le_of_ble_eq_true rfl) rfl rfl (dk KX9_morning 104 rfl) ?_
        refine X_iload_n 2 rfl (dk KX9_morning 105 rfl) ?_
        refine Y_iald (Nat.le_of_ble_eq_true rfl) rfl (dk KX9_morning 106 rfl) h (fun hi21 h => ?_)
        refine Y_iald (Nat.le_of_ble_eq_true rfl) rfl (dk KX9_morning 107 rfl) h (fun hi22 h => ?_)
        refine X_icmp_eq 214 (dk KX9_morning 108 rfl) (by decide) (fun hc => ?_) (fun hc => ?_)
        · have h := hO_t hc h
          refine X_aload_n 1 rfl (dk KX9_morning 138 rfl) ?_
          refine Y_getR 182 fX9_170 (Nat.le_of_ble_eq_true rfl) rfl rfl (dk KX9_morning 139 rfl) ?_
          refine X_iload_n 2 rfl (dk KX9_morning 140 rfl) ?_
          refine X_iload_n 4 rfl (dk KX9_morning 141 rfl) ?_
          refine Y_iast (Nat.le_of_ble_eq_true rfl) rfl (dk KX9_morning 142 rfl) h (fun hi23 h => ?_)
          exact Y_vret (dk KX9_morning 143 rfl) rfl h
        · have h := hO_f hc h
          refine X_aload_n 1 rfl (dk KX9_morning 109 rfl) ?_
          refine X_iconst (dk KX9_morning 110 rfl) 1 (by decide) ?_
          refine X_aload_n 1 rfl (dk KX9_morning 111 rfl) ?_
          refine Y_getR 156 fX9_89 (Nat.le_of_ble_eq_true rfl) rfl rfl (dk KX9_morning 112 rfl) ?_
          refine X_iload_n 4 rfl (dk KX9_morning 113 rfl) ?_
          refine Y_iald (Nat.le_of_ble_eq_true rfl) rfl (dk KX9_morning 114 rfl) h (fun hi24 h => ?_)
          refine Y_callVI wX9_353 (Nat.le_of_ble_eq_true rfl) rfl [.int 1, .int (gi (sI σ14 178 (((60 * x1) + x2) : Int32).toNatClampNeg y13) 156 (x3 : Int32).toNatClampNeg)] [] rfl rfl (Nat.le_of_ble_eq_true rfl) (Nat.le_of_ble_eq_true rfl) (dk KX9_morning 115 rfl) (fun Pc h => okX9_says _ _ _ Pc h) h (fun y25 σ26 e27 h => ?_)
          try dsimp only at h
          refine X_istore [(5, .int y25), (4, .int s0), (0, .ref 132), (1, .int x1), (2, .int x2), (3, .int x3)] (dk KX9_morning 116 rfl) (by decide) rfl ?_
          refine X_iload 0 rfl (dk KX9_morning 117 rfl) ?_
          refine X_if_le 214 (dk KX9_morning 118 rfl) (by decide) (fun hc => ?_) (fun hc => ?_)
          · have h := hO_t hc h
            refine X_aload_n 2 rfl (dk KX9_morning 138 rfl) ?_
            refine Y_getR 182 fX9_170 (Nat.le_of_ble_eq_true rfl) rfl rfl (dk KX9_morning 139 rfl) ?_
            refine X_iload_n 3 rfl (dk KX9_morning 140 rfl) ?_
            refine X_iload_n 5 rfl (dk KX9_morning 141 rfl) ?_
            refine Y_iast (Nat.le_of_ble_eq_true rfl) rfl (dk KX9_morning 142 rfl) h (fun hi28 h => ?_)
            exact Y_vret (dk KX9_morning 143 rfl) rfl h
          · have h := hO_f hc h
            refine X_aload_n 2 rfl (dk KX9_morning 119 rfl) ?_
            refine Y_getR 185 fX9_179 (Nat.le_of_ble_eq_true rfl) rfl rfl (dk KX9_morning 120 rfl) ?_
            refine X_iload_n 3 rfl (dk KX9_morning 121 rfl) ?_
            refine X_dup2 (dk KX9_morning 122 rfl) rfl rfl ?_
            refine Y_iald (Nat.le_of_ble_eq_true rfl) rfl (dk KX9_morning 123 rfl) h (fun hi29 h => ?_)
            refine X_iload 0 rfl (dk KX9_morning 124 rfl) ?_
            refine X_iadd (dk KX9_morning 125 rfl) ?_
            refine Y_iast (Nat.le_of_ble_eq_true rfl) rfl (dk KX9_morning 126 rfl) h (fun hi30 h => ?_)
            refine X_aload_n 2 rfl (dk KX9_morning 127 rfl) ?_
            refine Y_getR 186 fX9_182 (Nat.le_of_ble_eq_true rfl) rfl rfl (dk KX9_morning 128 rfl) ?_
            refine X_aload_n 2 rfl (dk KX9_morning 129 rfl) ?_
            refine Y_getR 156 fX9_89 (Nat.le_of_ble_eq_true rfl) rfl rfl (dk KX9_morning 130 rfl) ?_
            refine X_iload_n 5 rfl (dk KX9_morning 131 rfl) ?_
            refine Y_iald (Nat.le_of_ble_eq_true rfl) rfl (dk KX9_morning 132 rfl) h (fun hi31 h => ?_)
            refine X_dup2 (dk KX9_morning 133 rfl) rfl rfl ?_
            refine Y_iald (Nat.le_of_ble_eq_true rfl) rfl (dk KX9_morning 134 rfl) h (fun hi32 h => ?_)
            refine X_iload 0 rfl (dk KX9_morning 135 rfl) ?_
            refine X_iadd (dk KX9_morning 136 rfl) ?_
            refine Y_iast (Nat.le_of_ble_eq_true rfl) rfl (dk KX9_morning 137 rfl) h (fun hi33 h => ?_)
            refine X_aload_n 2 rfl (dk KX9_morning 138 rfl) ?_
            refine Y_getR 182 fX9_170 (Nat.le_of_ble_eq_true rfl) rfl rfl (dk KX9_morning 139 rfl) ?_
            refine X_iload_n 3 rfl (dk KX9_morning 140 rfl) ?_
            refine X_iload_n 5 rfl (dk KX9_morning 141 rfl) ?_
            refine Y_iast (Nat.le_of_ble_eq_true rfl) rfl (dk KX9_morning 142 rfl) h (fun hi34 h => ?_)
            exact Y_vret (dk KX9_morning 143 rfl) rfl h
      · have h := hO_f hc h
        exact Y_vret (dk KX9_morning 96 rfl) rfl h
def fX9_morning_57 (x1 : Int32) (x2 : Int32) (s0 : Int32) (σ : PS) : Option (PS) := gd (inb x1 6) ((if s0 ≤ (gi σ 182 (x1 : Int32).toNatClampNeg) then fX9_morning_78 x1 x2 s0 s0 σ else gd (inb x1 6) (fX9_morning_78 x1 x2 s0 (gi σ 182 (x1 : Int32).toNatClampNeg) σ)))
set_option maxRecDepth 100000 in
set_option maxHeartbeats 4000000 in
theorem tX9_morning_57 {P : PS → Prop} (x1 : Int32) (x2 : Int32) (s0 : Int32) (σ : PS) (h : hO (fX9_morning_57 x1 x2 s0 σ) P) : X g mX9_morning 3 0 0 (pV P) 57 [(0, .ref 132), (1, .int x1), (2, .int x2)] [.int s0] (HP σ) := by
  unfold fX9_morning_57 at h
  refine X_istore_n [(3, .int s0), (0, .ref 132), (1, .int x1), (2, .int x2)] (dk KX9_morning 38 rfl) (by decide) rfl ?_
  refine X_iload_n 0 rfl (dk KX9_morning 39 rfl) ?_
  refine X_aload_n 1 rfl (dk KX9_morning 40 rfl) ?_
  refine Y_getR 182 fX9_170 (Nat.le_of_ble_eq_true rfl) rfl rfl (dk KX9_morning 41 rfl) ?_
  refine X_iload_n 2 rfl (dk KX9_morning 42 rfl) ?_
  refine Y_iald (Nat.le_of_ble_eq_true rfl) rfl (dk KX9_morning 43 rfl) h (fun hi7 h => ?_)
  refine X_icmp_le 77 (dk KX9_morning 44 rfl) (by decide) (fun hc => ?_) (fun hc => ?_)
  · have h := hO_t hc h
    refine X_iload_n 0 rfl (dk KX9_morning 50 rfl) ?_
    refine X_sub [(0, .ref 132), (1, .int x1), (2, .int x2), (3, .int s0)] [1, 2, 3, 0] rfl ?_
    exact tX9_morning_78 x1 x2 s0 s0 σ h
  · have h := hO_f hc h
    refine X_aload_n 1 rfl (dk KX9_morning 45 rfl) ?_
    refine Y_getR 182 fX9_170 (Nat.le_of_ble_eq_true rfl) rfl rfl (dk KX9_morning 46 rfl) ?_
    refine X_iload_n 2 rfl (dk KX9_morning 47 rfl) ?_
    refine Y_iald (Nat.le_of_ble_eq_true rfl) rfl (dk KX9_morning 48 rfl) h (fun hi8 h => ?_)
    refine X_goto 78 (dk KX9_morning 49 rfl) (by decide) ?_
    refine X_sub [(0, .ref 132), (1, .int x1), (2, .int x2), (3, .int s0)] [1, 2, 3, 0] rfl ?_
    exact tX9_morning_78 x1 x2 s0 (gi σ 182 (x1 : Int32).toNatClampNeg) σ h
def fX9_morning (a1 : Int32) (a2 : Int32) (σ : PS) : Option (PS) := gd (inb ((60 * a1) + a2) 360) (gd (inb a1 6) ((if (gi (sI σ 178 (((60 * a1) + a2) : Int32).toNatClampNeg (-1)) 182 (a1 : Int32).toNatClampNeg) = (-1) then some (sI σ 178 (((60 * a1) + a2) : Int32).toNatClampNeg (-1)) else gd (inb a1 6) (gd (inb a1 6) ((if (gi (sI σ 178 (((60 * a1) + a2) : Int32).toNatClampNeg (-1)) 165 (a1 : Int32).toNatClampNeg) ≤ (gi (sI σ 178 (((60 * a1) + a2) : Int32).toNatClampNeg (-1)) 182 (a1 : Int32).toNatClampNeg) then gd (inb a1 6) (fX9_morning_57 a1 a2 ((gi (sI σ 178 (((60 * a1) + a2) : Int32).toNatClampNeg (-1)) 182 (a1 : Int32).toNatClampNeg) - 1) (sI σ 178 (((60 * a1) + a2) : Int32).toNatClampNeg (-1))) else gd (inb a1 6) (fX9_morning_57 a1 a2 ((gi (sI σ 178 (((60 * a1) + a2) : Int32).toNatClampNeg (-1)) 182 (a1 : Int32).toNatClampNeg) + 1) (sI σ 178 (((60 * a1) + a2) : Int32).toNatClampNeg (-1)))))))))
set_option maxRecDepth 100000 in
set_option maxHeartbeats 4000000 in
theorem okX9_morning (a1 : Int32) (a2 : Int32) (σ : PS) (P : PS → Prop) (h : hO (fX9_morning a1 a2 σ) P) : CON g mX9_morning 3 0 0 [.ref 132, .int a1, .int a2] (HP σ) (pV P) := by
  refine CON.of (by decide) (by simp [lg_sl, Value.category]) ?_
  show X g _ _ _ _ _ 0 [(0, .ref 132), (1, .int a1), (2, .int a2)] [] _
  unfold fX9_morning at h
  refine X_aload_n 0 rfl (dk KX9_morning 0 rfl) ?_
  refine Y_getR 178 fX9_158 (Nat.le_of_ble_eq_true rfl) rfl rfl (dk KX9_morning 1 rfl) ?_
  refine X_bipush (dk KX9_morning 2 rfl) 60 (by decide) ?_
  refine X_iload_n 1 rfl (dk KX9_morning 3 rfl) ?_
  refine X_imul (dk KX9_morning 4 rfl) ?_
  refine X_iload_n 2 rfl (dk KX9_morning 5 rfl) ?_
  refine X_iadd (dk KX9_morning 6 rfl) ?_
  refine X_iconst (dk KX9_morning 7 rfl) (-1) (by decide) ?_
  refine Y_iast (Nat.le_of_ble_eq_true rfl) rfl (dk KX9_morning 8 rfl) h (fun hi1 h => ?_)
  refine X_aload_n 0 rfl (dk KX9_morning 9 rfl) ?_
  refine Y_getR 182 fX9_170 (Nat.le_of_ble_eq_true rfl) rfl rfl (dk KX9_morning 10 rfl) ?_
  refine X_iload_n 1 rfl (dk KX9_morning 11 rfl) ?_
  refine Y_iald (Nat.le_of_ble_eq_true rfl) rfl (dk KX9_morning 12 rfl) h (fun hi2 h => ?_)
  refine X_iconst (dk KX9_morning 13 rfl) (-1) (by decide) ?_
  refine X_icmp_ne 23 (dk KX9_morning 14 rfl) (by decide) (fun hc => ?_) (fun hc => ?_)
  · have h := hO_f hc h
    refine X_aload_n 0 rfl (dk KX9_morning 16 rfl) ?_
    refine Y_getR 165 fX9_116 (Nat.le_of_ble_eq_true rfl) rfl rfl (dk KX9_morning 17 rfl) ?_
    refine X_iload_n 1 rfl (dk KX9_morning 18 rfl) ?_
    refine Y_iald (Nat.le_of_ble_eq_true rfl) rfl (dk KX9_morning 19 rfl) h (fun hi3 h => ?_)
    refine X_aload_n 0 rfl (dk KX9_morning 20 rfl) ?_
    refine Y_getR 182 fX9_170 (Nat.le_of_ble_eq_true rfl) rfl rfl (dk KX9_morning 21 rfl) ?_
    refine X_iload_n 1 rfl (dk KX9_morning 22 rfl) ?_
    refine Y_iald (Nat.le_of_ble_eq_true rfl) rfl (dk KX9_morning 23 rfl) h (fun hi4 h => ?_)
    refine X_icmp_le 49 (dk KX9_morning 24 rfl) (by decide) (fun hc => ?_) (fun hc => ?_)
    · have h := hO_t hc h
      refine X_aload_n 0 rfl (dk KX9_morning 32 rfl) ?_
      refine Y_getR 182 fX9_170 (Nat.le_of_ble_eq_true rfl) rfl rfl (dk KX9_morning 33 rfl) ?_
      refine X_iload_n 1 rfl (dk KX9_morning 34 rfl) ?_
      refine Y_iald (Nat.le_of_ble_eq_true rfl) rfl (dk KX9_morning 35 rfl) h (fun hi5 h => ?_)
      refine X_iconst (dk KX9_morning 36 rfl) 1 (by decide) ?_
      refine X_isub (dk KX9_morning 37 rfl) ?_
      exact tX9_morning_57 a1 a2 ((gi (sI σ 178 (((60 * a1) + a2) : Int32).toNatClampNeg (-1)) 182 (a1 : Int32).toNatClampNeg) - 1) (sI σ 178 (((60 * a1) + a2) : Int32).toNatClampNeg (-1)) h
    · have h := hO_f hc h
      refine X_aload_n 0 rfl (dk KX9_morning 25 rfl) ?_
      refine Y_getR 182 fX9_170 (Nat.le_of_ble_eq_true rfl) rfl rfl (dk KX9_morning 26 rfl) ?_
      refine X_iload_n 1 rfl (dk KX9_morning 27 rfl) ?_
      refine Y_iald (Nat.le_of_ble_eq_true rfl) rfl (dk KX9_morning 28 rfl) h (fun hi6 h => ?_)
      refine X_iconst (dk KX9_morning 29 rfl) 1 (by decide) ?_
      refine X_iadd (dk KX9_morning 30 rfl) ?_
      refine X_goto 57 (dk KX9_morning 31 rfl) (by decide) ?_
      exact tX9_morning_57 a1 a2 ((gi (sI σ 178 (((60 * a1) + a2) : Int32).toNatClampNeg (-1)) 182 (a1 : Int32).toNatClampNeg) + 1) (sI σ 178 (((60 * a1) + a2) : Int32).toNatClampNeg (-1)) h
  · have h := hO_t hc h
    exact Y_vret (dk KX9_morning 15 rfl) rfl h

def fX9_goes_361 (r144 : Int32 → PS → Option (PS)) : Nat → Int32 → Int32 → PS → Option (PS)
  | 0, _, _, _ => none
  | n + 1, x2, x3, σ => (if 5 ≤ x3 then r144 (x2 + 1) σ else gd (inb x3 5) (gd (inb ((60 * x3) + x2) 300) (fX9_goes_361 r144 n x2 (x3 + 1) (sI σ 180 (((60 * x3) + x2) : Int32).toNatClampNeg (gi σ 186 (x3 : Int32).toNatClampNeg)))))
set_option maxRecDepth 100000 in
set_option maxHeartbeats 4000000 in
theorem tX9_goes_361 {P : PS → Prop} {r144 : Int32 → PS → Option (PS)} (hr_144 : ∀ (x2 : Int32) (σ : PS), hO (r144 x2 σ) P → X g mX9_goes 4 0 0 (pV P) 144 [(0, .ref 132), (2, .int x2)] [] (HP σ)) : ∀ (n : Nat) (x2 : Int32) (x3 : Int32) (σ : PS), hO (fX9_goes_361 r144 n x2 x3 σ) P → X g mX9_goes 4 0 0 (pV P) 361 [(0, .ref 132), (2, .int x2), (3, .int x3)] [] (HP σ) := by
  intro n
  induction n with
  | zero =>
    intro x2 x3 σ h
    rw [fX9_goes_361] at h
    exact (hO_none h).elim
  | succ n ih =>
    intro x2 x3 σ h
    rw [fX9_goes_361] at h
    refine X_iload_n 2 rfl (dk KX9_goes 216 rfl) ?_
    refine X_iconst (dk KX9_goes 217 rfl) 5 (by decide) ?_
    refine X_icmp_ge 389 (dk KX9_goes 218 rfl) (by decide) (fun hc => ?_) (fun hc => ?_)
    · have h := hO_t hc h
      refine X_iinc 1 1 [(2, .int (x2 + 1)), (0, .ref 132), (3, .int x3)] (dk KX9_goes 233 rfl) rfl (by decide) (by decide) rfl ?_
      refine X_goto 144 (dk KX9_goes 234 rfl) (by decide) ?_
      refine X_sub [(0, .ref 132), (2, .int (x2 + 1))] [1, 0] rfl ?_
      exact hr_144 (x2 + 1) σ h
    · have h := hO_f hc h
      refine X_aload_n 0 rfl (dk KX9_goes 219 rfl) ?_
      refine Y_getR 180 fX9_164 (Nat.le_of_ble_eq_true rfl) rfl rfl (dk KX9_goes 220 rfl) ?_
      refine X_bipush (dk KX9_goes 221 rfl) 60 (by decide) ?_
      refine X_iload_n 2 rfl (dk KX9_goes 222 rfl) ?_
      refine X_imul (dk KX9_goes 223 rfl) ?_
      refine X_iload_n 1 rfl (dk KX9_goes 224 rfl) ?_
      refine X_iadd (dk KX9_goes 225 rfl) ?_
      refine X_aload_n 0 rfl (dk KX9_goes 226 rfl) ?_
      refine Y_getR 186 fX9_182 (Nat.le_of_ble_eq_true rfl) rfl rfl (dk KX9_goes 227 rfl) ?_
      refine X_iload_n 2 rfl (dk KX9_goes 228 rfl) ?_
      refine Y_iald (Nat.le_of_ble_eq_true rfl) rfl (dk KX9_goes 229 rfl) h (fun hi34 h => ?_)
      refine Y_iast (Nat.le_of_ble_eq_true rfl) rfl (dk KX9_goes 230 rfl) h (fun hi35 h => ?_)
      refine X_iinc 2 1 [(3, .int (x3 + 1)), (0, .ref 132), (2, .int x2)] (dk KX9_goes 231 rfl) rfl (by decide) (by decide) rfl ?_
      refine X_goto 361 (dk KX9_goes 232 rfl) (by decide) ?_
      refine X_sub [(0, .ref 132), (2, .int x2), (3, .int (x3 + 1))] [1, 2, 0] rfl ?_
      exact ih x2 (x3 + 1) (sI σ 180 (((60 * x3) + x2) : Int32).toNatClampNeg (gi σ 186 (x3 : Int32).toNatClampNeg)) h
def fX9_goes_353 (r144 : Int32 → PS → Option (PS)) (r234 : Int32 → Int32 → PS → Option (PS)) (x2 : Int32) (x3 : Int32) (σ : PS) : Option (PS) := r234 x2 (x3 + 1) σ
set_option maxRecDepth 100000 in
set_option maxHeartbeats 4000000 in
theorem tX9_goes_353 {P : PS → Prop} {r144 : Int32 → PS → Option (PS)} (hr_144 : ∀ (x2 : Int32) (σ : PS), hO (r144 x2 σ) P → X g mX9_goes 4 0 0 (pV P) 144 [(0, .ref 132), (2, .int x2)] [] (HP σ)) {r234 : Int32 → Int32 → PS → Option (PS)} (hr_234 : ∀ (x2 : Int32) (x3 : Int32) (σ : PS), hO (r234 x2 x3 σ) P → X g mX9_goes 4 0 0 (pV P) 234 [(0, .ref 132), (2, .int x2), (3, .int x3)] [] (HP σ)) (x2 : Int32) (x3 : Int32) (σ : PS) (h : hO (fX9_goes_353 r144 r234 x2 x3 σ) P) : X g mX9_goes 4 0 0 (pV P) 353 [(0, .ref 132), (2, .int x2), (3, .int x3)] [] (HP σ) := by
  unfold fX9_goes_353 at h
  refine X_iinc 2 1 [(3, .int (x3 + 1)), (0, .ref 132), (2, .int x2)] (dk KX9_goes 212 rfl) rfl (by decide) (by decide) rfl ?_
  refine X_goto 234 (dk KX9_goes 213 rfl) (by decide) ?_
  refine X_sub [(0, .ref 132), (2, .int x2), (3, .int (x3 + 1))] [1, 2, 0] rfl ?_
  exact hr_234 x2 (x3 + 1) σ h
def fX9_goes_328 (r144 : Int32 → PS → Option (PS)) (r234 : Int32 → Int32 → PS → Option (PS)) (x2 : Int32) (x3 : Int32) (σ : PS) : Option (PS) := gd (inb x3 6) (gd (inb x3 6) ((if (gi σ 182 (x3 : Int32).toNatClampNeg) = (gi σ 165 (x3 : Int32).toNatClampNeg) then gd (inb x3 6) (fX9_goes_353 r144 r234 x2 x3 (sI σ 182 (x3 : Int32).toNatClampNeg (-1))) else fX9_goes_353 r144 r234 x2 x3 σ)))
set_option maxRecDepth 100000 in
set_option maxHeartbeats 4000000 in
theorem tX9_goes_328 {P : PS → Prop} {r144 : Int32 → PS → Option (PS)} (hr_144 : ∀ (x2 : Int32) (σ : PS), hO (r144 x2 σ) P → X g mX9_goes 4 0 0 (pV P) 144 [(0, .ref 132), (2, .int x2)] [] (HP σ)) {r234 : Int32 → Int32 → PS → Option (PS)} (hr_234 : ∀ (x2 : Int32) (x3 : Int32) (σ : PS), hO (r234 x2 x3 σ) P → X g mX9_goes 4 0 0 (pV P) 234 [(0, .ref 132), (2, .int x2), (3, .int x3)] [] (HP σ)) (x2 : Int32) (x3 : Int32) (σ : PS) (h : hO (fX9_goes_328 r144 r234 x2 x3 σ) P) : X g mX9_goes 4 0 0 (pV P) 328 [(0, .ref 132), (2, .int x2), (3, .int x3)] [] (HP σ) := by
  unfold fX9_goes_328 at h
  refine X_aload_n 0 rfl (dk KX9_goes 197 rfl) ?_
  refine Y_getR 182 fX9_170 (Nat.le_of_ble_eq_true rfl) rfl rfl (dk KX9_goes 198 rfl) ?_
  refine X_iload_n 2 rfl (dk KX9_goes 199 rfl) ?_
  refine Y_iald (Nat.le_of_ble_eq_true rfl) rfl (dk KX9_goes 200 rfl) h (fun hi31 h => ?_)
  refine X_aload_n 0 rfl (dk KX9_goes 201 rfl) ?_
  refine Y_getR 165 fX9_116 (Nat.le_of_ble_eq_true rfl) rfl rfl (dk KX9_goes 202 rfl) ?_
  refine X_iload_n 2 rfl (dk KX9_goes 203 rfl) ?_
  refine Y_iald (Nat.le_of_ble_eq_true rfl) rfl (dk KX9_goes 204 rfl) h (fun hi32 h => ?_)
  refine X_icmp_eq 346 (dk KX9_goes 205 rfl) (by decide) (fun hc => ?_) (fun hc => ?_)
  · have h := hO_t hc h
    refine X_aload_n 0 rfl (dk KX9_goes 207 rfl) ?_
    refine Y_getR 182 fX9_170 (Nat.le_of_ble_eq_true rfl) rfl rfl (dk KX9_goes 208 rfl) ?_
    refine X_iload_n 2 rfl (dk KX9_goes 209 rfl) ?_
    refine X_iconst (dk KX9_goes 210 rfl) (-1) (by decide) ?_
    refine Y_iast (Nat.le_of_ble_eq_true rfl) rfl (dk KX9_goes 211 rfl) h (fun hi33 h => ?_)
    exact tX9_goes_353 hr_144 hr_234 x2 x3 (sI σ 182 (x3 : Int32).toNatClampNeg (-1)) h
  · have h := hO_f hc h
    refine X_goto 353 (dk KX9_goes 206 rfl) (by decide) ?_
    exact tX9_goes_353 hr_144 hr_234 x2 x3 σ h
def fX9_goes_234 (r144 : Int32 → PS → Option (PS)) : Nat → Int32 → Int32 → PS → Option (PS)
  | 0, _, _, _ => none
  | n + 1, x2, x3, σ => (if (gi σ 132 44) ≤ x3 then fX9_goes_361 r144 FU x2 0 σ else gd (inb x3 6) (gd (inb ((60 * x3) + x2) 360) (gd (inb x3 6) (gd (inb ((60 * x3) + x2) 360) (gd (inb x3 6) (gd (inb ((60 * x3) + x2) 360) (gd (inb x3 6) (gd (inb ((60 * x3) + x2) 360) (gd (inb x3 6) ((if (gi (sI (sI (sI (sI σ 172 (((60 * x3) + x2) : Int32).toNatClampNeg (gi σ 182 (x3 : Int32).toNatClampNeg)) 174 (((60 * x3) + x2) : Int32).toNatClampNeg (gi (sI σ 172 (((60 * x3) + x2) : Int32).toNatClampNeg (gi σ 182 (x3 : Int32).toNatClampNeg)) 183 (x3 : Int32).toNatClampNeg)) 175 (((60 * x3) + x2) : Int32).toNatClampNeg (gi (sI (sI σ 172 (((60 * x3) + x2) : Int32).toNatClampNeg (gi σ 182 (x3 : Int32).toNatClampNeg)) 174 (((60 * x3) + x2) : Int32).toNatClampNeg (gi (sI σ 172 (((60 * x3) + x2) : Int32).toNatClampNeg (gi σ 182 (x3 : Int32).toNatClampNeg)) 183 (x3 : Int32).toNatClampNeg)) 184 (x3 : Int32).toNatClampNeg)) 176 (((60 * x3) + x2) : Int32).toNatClampNeg (gi (sI (sI (sI σ 172 (((60 * x3) + x2) : Int32).toNatClampNeg (gi σ 182 (x3 : Int32).toNatClampNeg)) 174 (((60 * x3) + x2) : Int32).toNatClampNeg (gi (sI σ 172 (((60 * x3) + x2) : Int32).toNatClampNeg (gi σ 182 (x3 : Int32).toNatClampNeg)) 183 (x3 : Int32).toNatClampNeg)) 175 (((60 * x3) + x2) : Int32).toNatClampNeg (gi (sI (sI σ 172 (((60 * x3) + x2) : Int32).toNatClampNeg (gi σ 182 (x3 : Int32).toNatClampNeg)) 174 (((60 * x3) + x2) : Int32).toNatClampNeg (gi (sI σ 172 (((60 * x3) + x2) : Int32).toNatClampNeg (gi σ 182 (x3 : Int32).toNatClampNeg)) 183 (x3 : Int32).toNatClampNeg)) 184 (x3 : Int32).toNatClampNeg)) 185 (x3 : Int32).toNatClampNeg)) 182 (x3 : Int32).toNatClampNeg) = (-1) then gd (inb ((60 * x3) + x2) 360) (gd (inb ((60 * x3) + x2) 360) (fX9_goes_328 r144 (fX9_goes_234 r144 n) x2 x3 (sI (sI (sI (sI (sI (sI σ 172 (((60 * x3) + x2) : Int32).toNatClampNeg (gi σ 182 (x3 : Int32).toNatClampNeg)) 174 (((60 * x3) + x2) : Int32).toNatClampNeg (gi (sI σ 172 (((60 * x3) + x2) : Int32).toNatClampNeg (gi σ 182 (x3 : Int32).toNatClampNeg)) 183 (x3 : Int32).toNatClampNeg)) 175 (((60 * x3) + x2) : Int32).toNatClampNeg (gi (sI (sI σ 172 (((60 * x3) + x2) : Int32).toNatClampNeg (gi σ 182 (x3 : Int32).toNatClampNeg)) 174 (((60 * x3) + x2) : Int32).toNatClampNeg (gi (sI σ 172 (((60 * x3) + x2) : Int32).toNatClampNeg (gi σ 182 (x3 : Int32).toNatClampNeg)) 183 (x3 : Int32).toNatClampNeg)) 184 (x3 : Int32).toNatClampNeg)) 176 (((60 * x3) + x2) : Int32).toNatClampNeg (gi (sI (sI (sI σ 172 (((60 * x3) + x2) : Int32).toNatClampNeg (gi σ 182 (x3 : Int32).toNatClampNeg)) 174 (((60 * x3) + x2) : Int32).toNatClampNeg (gi (sI σ 172 (((60 * x3) + x2) : Int32).toNatClampNeg (gi σ 182 (x3 : Int32).toNatClampNeg)) 183 (x3 : Int32).toNatClampNeg)) 175 (((60 * x3) + x2) : Int32).toNatClampNeg (gi (sI (sI σ 172 (((60 * x3) + x2) : Int32).toNatClampNeg (gi σ 182 (x3 : Int32).toNatClampNeg)) 174 (((60 * x3) + x2) : Int32).toNatClampNeg (gi (sI σ 172 (((60 * x3) + x2) : Int32).toNatClampNeg (gi σ 182 (x3 : Int32).toNatClampNeg)) 183 (x3 : Int32).toNatClampNeg)) 184 (x3 : Int32).toNatClampNeg)) 185 (x3 : Int32).toNatClampNeg)) 173 (((60 * x3) + x2) : Int32).toNatClampNeg (-1)) 177 (((60 * x3) + x2) : Int32).toNatClampNeg 0))) else fX9_goes_328 r144 (fX9_goes_234 r144 n) x2 x3 (sI (sI (sI (sI σ 172 (((60 * x3) + x2) : Int32).toNatClampNeg (gi σ 182 (x3 : Int32).toNatClampNeg)) 174 (((60 * x3) + x2) : Int32).toNatClampNeg (gi (sI σ 172 (((60 * x3) + x2) : Int32).toNatClampNeg (gi σ 182 (x3 : Int32).toNatClampNeg)) 183 (x3 : Int32).toNatClampNeg)) 175 (((60 * x3) + x2) : Int32).toNatClampNeg (gi (sI (sI σ 172 (((60 * x3) + x2) : Int32).toNatClampNeg (gi σ 182 (x3 : Int32).toNatClampNeg)) 174 (((60 * x3) + x2) : Int32).toNatClampNeg (gi (sI σ 172 (((60 * x3) + x2) : Int32).toNatClampNeg (gi σ 182 (x3 : Int32).toNatClampNeg)) 183 (x3 : Int32).toNatClampNeg)) 184 (x3 : Int32).toNatClampNeg)) 176 (((60 * x3) + x2) : Int32).toNatClampNeg (gi (sI (sI (sI σ 172 (((60 * x3) + x2) : Int32).toNatClampNeg (gi σ 182 (x3 : Int32).toNatClampNeg)) 174 (((60 * x3) + x2) : Int32).toNatClampNeg (gi (sI σ 172 (((60 * x3) + x2) : Int32).toNatClampNeg (gi σ 182 (x3 : Int32).toNatClampNeg)) 183 (x3 : Int32).toNatClampNeg)) 175 (((60 * x3) + x2) : Int32).toNatClampNeg (gi (sI (sI σ 172 (((60 * x3) + x2) : Int32).toNatClampNeg (gi σ 182 (x3 : Int32).toNatClampNeg)) 174 (((60 * x3) + x2) : Int32).toNatClampNeg (gi (sI σ 172 (((60 * x3) + x2) : Int32).toNatClampNeg (gi σ 182 (x3 : Int32).toNatClampNeg)) 183 (x3 : Int32).toNatClampNeg)) 184 (x3 : Int32).toNatClampNeg)) 185 (x3 : Int32).toNatClampNeg)))))))))))))
set_option maxRecDepth 100000 in
set_option maxHeartbeats 4000000 in
theorem tX9_goes_234 {P : PS → Prop} {r144 : Int32 → PS → Option (PS)} (hr_144 : ∀ (x2 : Int32) (σ : PS), hO (r144 x2 σ) P → X g mX9_goes 4 0 0 (pV P) 144 [(0, .ref 132), (2, .int x2)] [] (HP σ)) : ∀ (n : Nat) (x2 : Int32) (x3 : Int32) (σ : PS), hO (fX9_goes_234 r144 n x2 x3 σ) P → X g mX9_goes 4 0 0 (pV P) 234 [(0, .ref 132), (2, .int x2), (3, .int x3)] [] (HP σ) := by
  intro n
  induction n with
  | zero =>
    intro x2 x3 σ h
    rw [fX9_goes_234] at h
    exact (hO_none h).elim
  | succ n ih =>
    intro x2 x3 σ h
    rw [fX9_goes_234] at h
    refine X_iload_n 2 rfl (dk KX9_goes 139 rfl) ?_
    refine X_aload_n 0 rfl (dk KX9_goes 140 rfl) ?_
    refine Y_getI fX9_312 (Nat.le_of_ble_eq_true rfl) rfl (dk KX9_goes 141 rfl) ?_
    refine X_icmp_ge 359 (dk KX9_goes 142 rfl) (by decide) (fun hc => ?_) (fun hc => ?_)
    · have h := hO_t hc h
      refine X_iconst (dk KX9_goes 214 rfl) 0 (by decide) ?_
      refine X_istore_n [(3, .int 0), (0, .ref 132), (2, .int x2)] (dk KX9_goes 215 rfl) (by decide) rfl ?_
      refine X_sub [(0, .ref 132), (2, .int x2), (3, .int 0)] [1, 2, 0] rfl ?_
      exact tX9_goes_361 hr_144 FU x2 0 σ h
    · have h := hO_f hc h
      refine X_bipush (dk KX9_goes 143 rfl) 60 (by decide) ?_
      refine X_iload_n 2 rfl (dk KX9_goes 144 rfl) ?_
      refine X_imul (dk KX9_goes 145 rfl) ?_
      refine X_iload_n 1 rfl (dk KX9_goes 146 rfl) ?_
      refine X_iadd (dk KX9_goes 147 rfl) ?_
      refine X_istore [(4, .int ((60 * x3) + x2)), (0, .ref 132), (2, .int x2), (3, .int x3)] (dk KX9_goes 148 rfl) (by decide) rfl ?_
      refine X_aload_n 1 rfl (dk KX9_goes 149 rfl) ?_
      refine Y_getR 172 fX9_140 (Nat.le_of_ble_eq_true rfl) rfl rfl (dk KX9_goes 150 rfl) ?_
      refine X_iload 0 rfl (dk KX9_goes 151 rfl) ?_
      refine X_aload_n 1 rfl (dk KX9_goes 152 rfl) ?_
      refine Y_getR 182 fX9_170 (Nat.le_of_ble_eq_true rfl) rfl rfl (dk KX9_goes 153 rfl) ?_
      refine X_iload_n 3 rfl (dk KX9_goes 154 rfl) ?_
      refine Y_iald (Nat.le_of_ble_eq_true rfl) rfl (dk KX9_goes 155 rfl) h (fun hi20 h => ?_)
      refine Y_iast (Nat.le_of_ble_eq_true rfl) rfl (dk KX9_goes 156 rfl) h (fun hi21 h => ?_)
      refine X_aload_n 1 rfl (dk KX9_goes 157 rfl) ?_
      refine Y_getR 174 fX9_146 (Nat.le_of_ble_eq_true rfl) rfl rfl (dk KX9_goes 158 rfl) ?_
      refine X_iload 0 rfl (dk KX9_goes 159 rfl) ?_
      refine X_aload_n 1 rfl (dk KX9_goes 160 rfl) ?_
      refine Y_getR 183 fX9_173 (Nat.le_of_ble_eq_true rfl) rfl rfl (dk KX9_goes 161 rfl) ?_
      refine X_iload_n 3 rfl (dk KX9_goes 162 rfl) ?_
      refine Y_iald (Nat.le_of_ble_eq_true rfl) rfl (dk KX9_goes 163 rfl) h (fun hi22 h => ?_)
      refine Y_iast (Nat.le_of_ble_eq_true rfl) rfl (dk KX9_goes 164 rfl) h (fun hi23 h => ?_)
      refine X_aload_n 1 rfl (dk KX9_goes 165 rfl) ?_
      refine Y_getR 175 fX9_149 (Nat.le_of_ble_eq_true rfl) rfl rfl (dk KX9_goes 166 rfl) ?_
      refine X_iload 0 rfl (dk KX9_goes 167 rfl) ?_
      refine X_aload_n 1 rfl (dk KX9_goes 168 rfl) ?_
      refine Y_getR 184 fX9_176 (Nat.le_of_ble_eq_true rfl) rfl rfl (dk KX9_goes 169 rfl) ?_
      refine X_iload_n 3 rfl (dk KX9_goes 170 rfl) ?_
      refine Y_iald (Nat.le_of_ble_eq_true rfl) rfl (dk KX9_goes 171 rfl) h (fun hi24 h => ?_)
      refine Y_iast (Nat.le_of_ble_eq_true rfl) rfl (dk KX9_goes 172 rfl) h (fun hi25 h => ?_)
      refine X_aload_n 1 rfl (dk KX9_goes 173 rfl) ?_
      refine Y_getR 176 fX9_152 (Nat.le_of_ble_eq_true rfl) rfl rfl (dk KX9_goes 174 rfl) ?_
      refine X_iload 0 rfl (dk KX9_goes 175 rfl) ?_
      refine X_aload_n 1 rfl (dk KX9_goes 176 rfl) ?_
      refine Y_getR 185 fX9_179 (Nat.le_of_ble_eq_true rfl) rfl rfl (dk KX9_goes 177 rfl) ?_
      refine X_iload_n 3 rfl (dk KX9_goes 178 rfl) ?_
      refine Y_iald (Nat.le_of_ble_eq_true rfl) rfl (dk KX9_goes 179 rfl) h (fun hi26 h => ?_)
      refine Y_iast (Nat.le_of_ble_eq_true rfl) rfl (dk KX9_goes 180 rfl) h (fun hi27 h => ?_)
      refine X_aload_n 1 rfl (dk KX9_goes 181 rfl) ?_
      refine Y_getR 182 fX9_170 (Nat.le_of_ble_eq_true rfl) rfl rfl (dk KX9_goes 182 rfl) ?_
      refine X_iload_n 3 rfl (dk KX9_goes 183 rfl) ?_
      refine Y_iald (Nat.le_of_ble_eq_true rfl) rfl (dk KX9_goes 184 rfl) h (fun hi28 h => ?_)
      refine X_iconst (dk KX9_goes 185 rfl) (-1) (by decide) ?_
      refine X_icmp_ne 328 (dk KX9_goes 186 rfl) (by decide) (fun hc => ?_) (fun hc => ?_)
      · have h := hO_f hc h
        refine X_sub [(0, .ref 132), (2, .int x2), (3, .int x3)] [1, 2, 3] rfl ?_
        exact tX9_goes_328 hr_144 ih x2 x3 (sI (sI (sI (sI σ 172 (((60 * x3) + x2) : Int32).toNatClampNeg (gi σ 182 (x3 : Int32).toNatClampNeg)) 174 (((60 * x3) + x2) : Int32).toNatClampNeg (gi (sI σ 172 (((60 * x3) + x2) : Int32).toNatClampNeg (gi σ 182 (x3 : Int32).toNatClampNeg)) 183 (x3 : Int32).toNatClampNeg)) 175 (((60 * x3) + x2) : Int32).toNatClampNeg (gi (sI (sI σ 172 (((60 * x3) + x2) : Int32).toNatClampNeg (gi σ 182 (x3 : Int32).toNatClampNeg)) 174 (((60 * x3) + x2) : Int32).toNatClampNeg (gi (sI σ 172 (((60 * x3) + x2) : Int32).toNatClampNeg (gi σ 182 (x3 : Int32).toNatClampNeg)) 183 (x3 : Int32).toNatClampNeg)) 184 (x3 : Int32).toNatClampNeg)) 176 (((60 * x3) + x2) : Int32).toNatClampNeg (gi (sI (sI (sI σ 172 (((60 * x3) + x2) : Int32).toNatClampNeg (gi σ 182 (x3 : Int32).toNatClampNeg)) 174 (((60 * x3) + x2) : Int32).toNatClampNeg (gi (sI σ 172 (((60 * x3) + x2) : Int32).toNatClampNeg (gi σ 182 (x3 : Int32).toNatClampNeg)) 183 (x3 : Int32).toNatClampNeg)) 175 (((60 * x3) + x2) : Int32).toNatClampNeg (gi (sI (sI σ 172 (((60 * x3) + x2) : Int32).toNatClampNeg (gi σ 182 (x3 : Int32).toNatClampNeg)) 174 (((60 * x3) + x2) : Int32).toNatClampNeg (gi (sI σ 172 (((60 * x3) + x2) : Int32).toNatClampNeg (gi σ 182 (x3 : Int32).toNatClampNeg)) 183 (x3 : Int32).toNatClampNeg)) 184 (x3 : Int32).toNatClampNeg)) 185 (x3 : Int32).toNatClampNeg)) h
      · have h := hO_t hc h
        refine X_aload_n 1 rfl (dk KX9_goes 187 rfl) ?_
        refine Y_getR 173 fX9_143 (Nat.le_of_ble_eq_true rfl) rfl rfl (dk KX9_goes 188 rfl) ?_
        refine X_iload 0 rfl (dk KX9_goes 189 rfl) ?_
        refine X_iconst (dk KX9_goes 190 rfl) (-1) (by decide) ?_
        refine Y_iast (Nat.le_of_ble_eq_true rfl) rfl (dk KX9_goes 191 rfl) h (fun hi29 h => ?_)
        refine X_aload_n 1 rfl (dk KX9_goes 192 rfl) ?_
        refine Y_getR 177 fX9_155 (Nat.le_of_ble_eq_true rfl) rfl rfl (dk KX9_goes 193 rfl) ?_
        refine X_iload 0 rfl (dk KX9_goes 194 rfl) ?_
        refine X_iconst (dk KX9_goes 195 rfl) 0 (by decide) ?_
        refine Y_iast (Nat.le_of_ble_eq_true rfl) rfl (dk KX9_goes 196 rfl) h (fun hi30 h => ?_)
        refine X_sub [(0, .ref 132), (2, .int x2), (3, .int x3)] [1, 2, 3] rfl ?_
        exact tX9_goes_328 hr_144 ih x2 x3 (sI (sI (sI (sI (sI (sI σ 172 (((60 * x3) + x2) : Int32).toNatClampNeg (gi σ 182 (x3 : Int32).toNatClampNeg)) 174 (((60 * x3) + x2) : Int32).toNatClampNeg (gi (sI σ 172 (((60 * x3) + x2) : Int32).toNatClampNeg (gi σ 182 (x3 : Int32).toNatClampNeg)) 183 (x3 : Int32).toNatClampNeg)) 175 (((60 * x3) + x2) : Int32).toNatClampNeg (gi (sI (sI σ 172 (((60 * x3) + x2) : Int32).toNatClampNeg (gi σ 182 (x3 : Int32).toNatClampNeg)) 174 (((60 * x3) + x2) : Int32).toNatClampNeg (gi (sI σ 172 (((60 * x3) + x2) : Int32).toNatClampNeg (gi σ 182 (x3 : Int32).toNatClampNeg)) 183 (x3 : Int32).toNatClampNeg)) 184 (x3 : Int32).toNatClampNeg)) 176 (((60 * x3) + x2) : Int32).toNatClampNeg (gi (sI (sI (sI σ 172 (((60 * x3) + x2) : Int32).toNatClampNeg (gi σ 182 (x3 : Int32).toNatClampNeg)) 174 (((60 * x3) + x2) : Int32).toNatClampNeg (gi (sI σ 172 (((60 * x3) + x2) : Int32).toNatClampNeg (gi σ 182 (x3 : Int32).toNatClampNeg)) 183 (x3 : Int32).toNatClampNeg)) 175 (((60 * x3) + x2) : Int32).toNatClampNeg (gi (sI (sI σ 172 (((60 * x3) + x2) : Int32).toNatClampNeg (gi σ 182 (x3 : Int32).toNatClampNeg)) 174 (((60 * x3) + x2) : Int32).toNatClampNeg (gi (sI σ 172 (((60 * x3) + x2) : Int32).toNatClampNeg (gi σ 182 (x3 : Int32).toNatClampNeg)) 183 (x3 : Int32).toNatClampNeg)) 184 (x3 : Int32).toNatClampNeg)) 185 (x3 : Int32).toNatClampNeg)) 173 (((60 * x3) + x2) : Int32).toNatClampNeg (-1)) 177 (((60 * x3) + x2) : Int32).toNatClampNeg 0) h
def fX9_goes_212 (r144 : Int32 → PS → Option (PS)) : Nat → Int32 → Int32 → PS → Option (PS)
  | 0, _, _, _ => none
  | n + 1, x2, x3, σ => (if (gi σ 132 38) ≤ x3 then fX9_goes_234 r144 FU x2 0 σ else (fX9_evening x3 x2 σ).bind (fun σ18 => fX9_goes_212 r144 n x2 (x3 + 1) σ18))
set_option maxRecDepth 100000 in
set_option maxHeartbeats 4000000 in
theorem tX9_goes_212 {P : PS → Prop} {r144 : Int32 → PS → Option (PS)} (hr_144 : ∀ (x2 : Int32) (σ : PS), hO (r144 x2 σ) P → X g mX9_goes 4 0 0 (pV P) 144 [(0, .ref 132), (2, .int x2)] [] (HP σ)) : ∀ (n : Nat) (x2 : Int32) (x3 : Int32) (σ : PS), hO (fX9_goes_212 r144 n x2 x3 σ) P → X g mX9_goes 4 0 0 (pV P) 212 [(0, .ref 132), (2, .int x2), (3, .int x3)] [] (HP σ) := by
  intro n
  induction n with
  | zero =>
    intro x2 x3 σ h
    rw [fX9_goes_212] at h
    exact (hO_none h).elim
  | succ n ih =>
    intro x2 x3 σ h
    rw [fX9_goes_212] at h
    refine X_iload_n 2 rfl (dk KX9_goes 127 rfl) ?_
    refine X_aload_n 0 rfl (dk KX9_goes 128 rfl) ?_
    refine Y_getI fX9_309 (Nat.le_of_ble_eq_true rfl) rfl (dk KX9_goes 129 rfl) ?_
    refine X_icmp_ge 232 (dk KX9_goes 130 rfl) (by decide) (fun hc => ?_) (fun hc => ?_)
    · have h := hO_t hc h
      refine X_iconst (dk KX9_goes 137 rfl) 0 (by decide) ?_
      refine X_istore_n [(3, .int 0), (0, .ref 132), (2, .int x2)] (dk KX9_goes 138 rfl) (by decide) rfl ?_
      refine X_sub [(0, .ref 132), (2, .int x2), (3, .int 0)] [1, 2, 0] rfl ?_
      exact tX9_goes_234 hr_144 FU x2 0 σ h
    · have h := hO_f hc h
      refine X_aload_n 0 rfl (dk KX9_goes 131 rfl) ?_
      refine X_iload_n 2 rfl (dk KX9_goes 132 rfl) ?_
      refine X_iload_n 1 rfl (dk KX9_goes 133 rfl) ?_
      refine Y_callVV wX9_343 (Nat.le_of_ble_eq_true rfl) rfl [.int x3, .int x2] [] rfl rfl (Nat.le_of_ble_eq_true rfl) (Nat.le_of_ble_eq_true rfl) (dk KX9_goes 134 rfl) (fun Pc h => okX9_evening _ _ _ Pc h) h (fun σ18 e19 h => ?_)
      try dsimp only at h
      refine X_iinc 2 1 [(3, .int (x3 + 1)), (0, .ref 132), (2, .int x2)] (dk KX9_goes 135 rfl) rfl (by decide) (by decide) rfl ?_
      refine X_goto 212 (dk KX9_goes 136 rfl) (by decide) ?_
      refine X_sub [(0, .ref 132), (2, .int x2), (3, .int (x3 + 1))] [1, 2, 0] rfl ?_
      exact ih x2 (x3 + 1) σ18 h
def fX9_goes_204 (r144 : Int32 → PS → Option (PS)) (r174 : Int32 → Int32 → PS → Option (PS)) (x2 : Int32) (x3 : Int32) (σ : PS) : Option (PS) := r174 x2 (x3 + 1) σ
set_option maxRecDepth 100000 in
set_option maxHeartbeats 4000000 in
theorem tX9_goes_204 {P : PS → Prop} {r144 : Int32 → PS → Option (PS)} (hr_144 : ∀ (x2 : Int32) (σ : PS), hO (r144 x2 σ) P → X g mX9_goes 4 0 0 (pV P) 144 [(0, .ref 132), (2, .int x2)] [] (HP σ)) {r174 : Int32 → Int32 → PS → Option (PS)} (hr_174 : ∀ (x2 : Int32) (x3 : Int32) (σ : PS), hO (r174 x2 x3 σ) P → X g mX9_goes 4 0 0 (pV P) 174 [(0, .ref 132), (2, .int x2), (3, .int x3)] [] (HP σ)) (x2 : Int32) (x3 : Int32) (σ : PS) (h : hO (fX9_goes_204 r144 r174 x2 x3 σ) P) : X g mX9_goes 4 0 0 (pV P) 204 [(0, .ref 132), (2, .int x2), (3, .int x3)] [] (HP σ) := by
  unfold fX9_goes_204 at h
  refine X_iinc 2 1 [(3, .int (x3 + 1)), (0, .ref 132), (2, .int x2)] (dk KX9_goes 123 rfl) rfl (by decide) (by decide) rfl ?_
  refine X_goto 174 (dk KX9_goes 124 rfl) (by decide) ?_
  refine X_sub [(0, .ref 132), (2, .int x2), (3, .int (x3 + 1))] [1, 2, 0] rfl ?_
  exact hr_174 x2 (x3 + 1) σ h
def fX9_goes_174 (r144 : Int32 → PS → Option (PS)) : Nat → Int32 → Int32 → PS → Option (PS)
  | 0, _, _, _ => none
  | n + 1, x2, x3, σ => (if (gi σ 132 44) ≤ x3 then fX9_goes_212 r144 FU x2 0 σ else gd (inb x3 6) ((if (gi σ 166 (x3 : Int32).toNatClampNeg) = x2 then gd (inb x3 6) (gd (inb x3 6) (fX9_goes_204 r144 (fX9_goes_174 r144 n) x2 x3 (sI σ 182 (x3 : Int32).toNatClampNeg (gi σ 164 (x3 : Int32).toNatClampNeg)))) else fX9_goes_204 r144 (fX9_goes_174 r144 n) x2 x3 σ)))
set_option maxRecDepth 100000 in
set_option maxHeartbeats 4000000 in
theorem tX9_goes_174 {P : PS → Prop} {r144 : Int32 → PS → Option (PS)} (hr_144 : ∀ (x2 : Int32) (σ : PS), hO (r144 x2 σ) P → X g mX9_goes 4 0 0 (pV P) 144 [(0, .ref 132), (2, .int x2)] [] (HP σ)) : ∀ (n : Nat) (x2 : Int32) (x3 : Int32) (σ : PS), hO (fX9_goes_174 r144 n x2 x3 σ) P → X g mX9_goes 4 0 0 (pV P) 174 [(0, .ref 132), (2, .int x2), (3, .int x3)] [] (HP σ) := by
  intro n
  induction n with
  | zero =>
    intro x2 x3 σ h
    rw [fX9_goes_174] at h
    exact (hO_none h).elim
  | succ n ih =>
    intro x2 x3 σ h
    rw [fX9_goes_174] at h
    refine X_iload_n 2 rfl (dk KX9_goes 105 rfl) ?_
    refine X_aload_n 0 rfl (dk KX9_goes 106 rfl) ?_
    refine Y_getI fX9_312 (Nat.le_of_ble_eq_true rfl) rfl (dk KX9_goes 107 rfl) ?_
    refine X_icmp_ge 210 (dk KX9_goes 108 rfl) (by decide) (fun hc => ?_) (fun hc => ?_)
    · have h := hO_t hc h
      refine X_iconst (dk KX9_goes 125 rfl) 0 (by decide) ?_
      refine X_istore_n [(3, .int 0), (0, .ref 132), (2, .int x2)] (dk KX9_goes 126 rfl) (by decide) rfl ?_
      refine X_sub [(0, .ref 132), (2, .int x2), (3, .int 0)] [1, 2, 0] rfl ?_
      exact tX9_goes_212 hr_144 FU x2 0 σ h
    · have h := hO_f hc h
      refine X_aload_n 0 rfl (dk KX9_goes 109 rfl) ?_
      refine Y_getR 166 fX9_119 (Nat.le_of_ble_eq_true rfl) rfl rfl (dk KX9_goes 110 rfl) ?_
      refine X_iload_n 2 rfl (dk KX9_goes 111 rfl) ?_
      refine Y_iald (Nat.le_of_ble_eq_true rfl) rfl (dk KX9_goes 112 rfl) h (fun hi14 h => ?_)
      refine X_iload_n 1 rfl (dk KX9_goes 113 rfl) ?_
      refine X_icmp_ne 204 (dk KX9_goes 114 rfl) (by decide) (fun hc => ?_) (fun hc => ?_)
      · have h := hO_f hc h
        exact tX9_goes_204 hr_144 ih x2 x3 σ h
      · have h := hO_t hc h
        refine X_aload_n 0 rfl (dk KX9_goes 115 rfl) ?_
        refine Y_getR 182 fX9_170 (Nat.le_of_ble_eq_true rfl) rfl rfl (dk KX9_goes 116 rfl) ?_
        refine X_iload_n 2 rfl (dk KX9_goes 117 rfl) ?_
        refine X_aload_n 0 rfl (dk KX9_goes 118 rfl) ?_
        refine Y_getR 164 fX9_113 (Nat.le_of_ble_eq_true rfl) rfl rfl (dk KX9_goes 119 rfl) ?_
        refine X_iload_n 2 rfl (dk KX9_goes 120 rfl) ?_
        refine Y_iald (Nat.le_of_ble_eq_true rfl) rfl (dk KX9_goes 121 rfl) h (fun hi15 h => ?_)
        refine Y_iast (Nat.le_of_ble_eq_true rfl) rfl (dk KX9_goes 122 rfl) h (fun hi16 h => ?_)
        exact tX9_goes_204 hr_144 ih x2 x3 (sI σ 182 (x3 : Int32).toNatClampNeg (gi σ 164 (x3 : Int32).toNatClampNeg)) h
def fX9_goes_152 (r144 : Int32 → PS → Option (PS)) : Nat → Int32 → Int32 → PS → Option (PS)
  | 0, _, _, _ => none
  | n + 1, x2, x3, σ => (if (gi σ 132 44) ≤ x3 then fX9_goes_174 r144 FU x2 0 σ else (fX9_morning x3 x2 σ).bind (fun σ12 => fX9_goes_152 r144 n x2 (x3 + 1) σ12))
set_option maxRecDepth 100000 in
set_option maxHeartbeats 4000000 in
theorem tX9_goes_152 {P : PS → Prop} {r144 : Int32 → PS → Option (PS)} (hr_144 : ∀ (x2 : Int32) (σ : PS), hO (r144 x2 σ) P → X g mX9_goes 4 0 0 (pV P) 144 [(0, .ref 132), (2, .int x2)] [] (HP σ)) : ∀ (n : Nat) (x2 : Int32) (x3 : Int32) (σ : PS), hO (fX9_goes_152 r144 n x2 x3 σ) P → X g mX9_goes 4 0 0 (pV P) 152 [(0, .ref 132), (2, .int x2), (3, .int x3)] [] (HP σ) := by
  intro n
  induction n with
  | zero =>
    intro x2 x3 σ h
    rw [fX9_goes_152] at h
    exact (hO_none h).elim
  | succ n ih =>
    intro x2 x3 σ h
    rw [fX9_goes_152] at h
    refine X_iload_n 2 rfl (dk KX9_goes 93 rfl) ?_
    refine X_aload_n 0 rfl (dk KX9_goes 94 rfl) ?_
    refine Y_getI fX9_312 (Nat.le_of_ble_eq_true rfl) rfl (dk KX9_goes 95 rfl) ?_
    refine X_icmp_ge 172 (dk KX9_goes 96 rfl) (by decide) (fun hc => ?_) (fun hc => ?_)
    · have h := hO_t hc h
      refine X_iconst (dk KX9_goes 103 rfl) 0 (by decide) ?_
      refine X_istore_n [(3, .int 0), (0, .ref 132), (2, .int x2)] (dk KX9_goes 104 rfl) (by decide) rfl ?_
      refine X_sub [(0, .ref 132), (2, .int x2), (3, .int 0)] [1, 2, 0] rfl ?_
      exact tX9_goes_174 hr_144 FU x2 0 σ h
    · have h := hO_f hc h
      refine X_aload_n 0 rfl (dk KX9_goes 97 rfl) ?_
      refine X_iload_n 2 rfl (dk KX9_goes 98 rfl) ?_
      refine X_iload_n 1 rfl (dk KX9_goes 99 rfl) ?_
      refine Y_callVV wX9_340 (Nat.le_of_ble_eq_true rfl) rfl [.int x3, .int x2] [] rfl rfl (Nat.le_of_ble_eq_true rfl) (Nat.le_of_ble_eq_true rfl) (dk KX9_goes 100 rfl) (fun Pc h => okX9_morning _ _ _ Pc h) h (fun σ12 e13 h => ?_)
      try dsimp only at h
      refine X_iinc 2 1 [(3, .int (x3 + 1)), (0, .ref 132), (2, .int x2)] (dk KX9_goes 101 rfl) rfl (by decide) (by decide) rfl ?_
      refine X_goto 152 (dk KX9_goes 102 rfl) (by decide) ?_
      refine X_sub [(0, .ref 132), (2, .int x2), (3, .int (x3 + 1))] [1, 2, 0] rfl ?_
      exact ih x2 (x3 + 1) σ12 h
def fX9_goes_144 : Nat → Int32 → PS → Option (PS)
  | 0, _, _ => none
  | n + 1, x2, σ => (if 60 ≤ x2 then some σ else fX9_goes_152 (fX9_goes_144 n) FU x2 0 σ)
set_option maxRecDepth 100000 in
set_option maxHeartbeats 4000000 in
theorem tX9_goes_144 {P : PS → Prop} : ∀ (n : Nat) (x2 : Int32) (σ : PS), hO (fX9_goes_144 n x2 σ) P → X g mX9_goes 4 0 0 (pV P) 144 [(0, .ref 132), (2, .int x2)] [] (HP σ) := by
  intro n
  induction n with
  | zero =>
    intro x2 σ h
    rw [fX9_goes_144] at h
    exact (hO_none h).elim
  | succ n ih =>
    intro x2 σ h
    rw [fX9_goes_144] at h
    refine X_iload_n 1 rfl (dk KX9_goes 88 rfl) ?_
    refine X_bipush (dk KX9_goes 89 rfl) 60 (by decide) ?_
    refine X_icmp_ge 395 (dk KX9_goes 90 rfl) (by decide) (fun hc => ?_) (fun hc => ?_)
    · have h := hO_t hc h
      exact Y_vret (dk KX9_goes 235 rfl) rfl h
    · have h := hO_f hc h
      refine X_iconst (dk KX9_goes 91 rfl) 0 (by decide) ?_
      refine X_istore_n [(3, .int 0), (0, .ref 132), (2, .int x2)] (dk KX9_goes 92 rfl) (by decide) rfl ?_
      refine X_sub [(0, .ref 132), (2, .int x2), (3, .int 0)] [1, 2, 0] rfl ?_
      exact tX9_goes_152 ih FU x2 0 σ h
def fX9_goes_124 : Nat → Int32 → PS → Option (PS)
  | 0, _, _ => none
  | n + 1, x2, σ => (if 5 ≤ x2 then fX9_goes_144 FU 0 σ else gd (inb x2 5) (fX9_goes_124 n (x2 + 1) (sI σ 186 (x2 : Int32).toNatClampNeg 0)))
set_option maxRecDepth 100000 in
set_option maxHeartbeats 4000000 in
theorem tX9_goes_124 {P : PS → Prop} : ∀ (n : Nat) (x2 : Int32) (σ : PS), hO (fX9_goes_124 n x2 σ) P → X g mX9_goes 4 0 0 (pV P) 124 [(0, .ref 132), (2, .int x2)] [] (HP σ) := by
  intro n
  induction n with
  | zero =>
    intro x2 σ h
    rw [fX9_goes_124] at h
    exact (hO_none h).elim
  | succ n ih =>
    intro x2 σ h
    rw [fX9_goes_124] at h
    refine X_iload_n 1 rfl (dk KX9_goes 76 rfl) ?_
    refine X_iconst (dk KX9_goes 77 rfl) 5 (by decide) ?_
    refine X_icmp_ge 142 (dk KX9_goes 78 rfl) (by decide) (fun hc => ?_) (fun hc => ?_)
    · have h := hO_t hc h
      refine X_iconst (dk KX9_goes 86 rfl) 0 (by decide) ?_
      refine X_istore_n [(2, .int 0), (0, .ref 132)] (dk KX9_goes 87 rfl) (by decide) rfl ?_
      refine X_sub [(0, .ref 132), (2, .int 0)] [1, 0] rfl ?_
      exact tX9_goes_144 FU 0 σ h
    · have h := hO_f hc h
      refine X_aload_n 0 rfl (dk KX9_goes 79 rfl) ?_
      refine Y_getR 186 fX9_182 (Nat.le_of_ble_eq_true rfl) rfl rfl (dk KX9_goes 80 rfl) ?_
      refine X_iload_n 1 rfl (dk KX9_goes 81 rfl) ?_
      refine X_iconst (dk KX9_goes 82 rfl) 0 (by decide) ?_
      refine Y_iast (Nat.le_of_ble_eq_true rfl) rfl (dk KX9_goes 83 rfl) h (fun hi10 h => ?_)
      refine X_iinc 1 1 [(2, .int (x2 + 1)), (0, .ref 132)] (dk KX9_goes 84 rfl) rfl (by decide) (by decide) rfl ?_
      refine X_goto 124 (dk KX9_goes 85 rfl) (by decide) ?_
      refine X_sub [(0, .ref 132), (2, .int (x2 + 1))] [1, 0] rfl ?_
      exact ih (x2 + 1) (sI σ 186 (x2 : Int32).toNatClampNeg 0) h
def fX9_goes_82 : Nat → Int32 → PS → Option (PS)
  | 0, _, _ => none
  | n + 1, x2, σ => (if 6 ≤ x2 then fX9_goes_124 FU 0 σ else gd (inb x2 6) (gd (inb x2 6) (gd (inb x2 6) (gd (inb x2 6) (fX9_goes_82 n (x2 + 1) (sI (sI (sI (sI σ 182 (x2 : Int32).toNatClampNeg (-1)) 183 (x2 : Int32).toNatClampNeg 0) 184 (x2 : Int32).toNatClampNeg 0) 185 (x2 : Int32).toNatClampNeg 0))))))
set_option maxRecDepth 100000 in
set_option maxHeartbeats 4000000 in
theorem tX9_goes_82 {P : PS → Prop} : ∀ (n : Nat) (x2 : Int32) (σ : PS), hO (fX9_goes_82 n x2 σ) P → X g mX9_goes 4 0 0 (pV P) 82 [(0, .ref 132), (2, .int x2)] [] (HP σ) := by
  intro n
  induction n with
  | zero =>
    intro x2 σ h
    rw [fX9_goes_82] at h
    exact (hO_none h).elim
  | succ n ih =>
    intro x2 σ h
    rw [fX9_goes_82] at h
    refine X_iload_n 1 rfl (dk KX9_goes 49 rfl) ?_
    refine X_bipush (dk KX9_goes 50 rfl) 6 (by decide) ?_
    refine X_icmp_ge 122 (dk KX9_goes 51 rfl) (by decide) (fun hc => ?_) (fun hc => ?_)
    · have h := hO_t hc h
      refine X_iconst (dk KX9_goes 74 rfl) 0 (by decide) ?_
      refine X_istore_n [(2, .int 0), (0, .ref 132)] (dk KX9_goes 75 rfl) (by decide) rfl ?_
      refine X_sub [(0, .ref 132), (2, .int 0)] [1, 0] rfl ?_
      exact tX9_goes_124 FU 0 σ h
    · have h := hO_f hc h
      refine X_aload_n 0 rfl (dk KX9_goes 52 rfl) ?_
      refine Y_getR 182 fX9_170 (Nat.le_of_ble_eq_true rfl) rfl rfl (dk KX9_goes 53 rfl) ?_
      refine X_iload_n 1 rfl (dk KX9_goes 54 rfl) ?_
      refine X_iconst (dk KX9_goes 55 rfl) (-1) (by decide) ?_
      refine Y_iast (Nat.le_of_ble_eq_true rfl) rfl (dk KX9_goes 56 rfl) h (fun hi6 h => ?_)
      refine X_aload_n 0 rfl (dk KX9_goes 57 rfl) ?_
      refine Y_getR 183 fX9_173 (Nat.le_of_ble_eq_true rfl) rfl rfl (dk KX9_goes 58 rfl) ?_
      refine X_iload_n 1 rfl (dk KX9_goes 59 rfl) ?_
      refine X_iconst (dk KX9_goes 60 rfl) 0 (by decide) ?_
      refine Y_iast (Nat.le_of_ble_eq_true rfl) rfl (dk KX9_goes 61 rfl) h (fun hi7 h => ?_)
      refine X_aload_n 0 rfl (dk KX9_goes 62 rfl) ?_
      refine Y_getR 184 fX9_176 (Nat.le_of_ble_eq_true rfl) rfl rfl (dk KX9_goes 63 rfl) ?_
      refine X_iload_n 1 rfl (dk KX9_goes 64 rfl) ?_
      refine X_iconst (dk KX9_goes 65 rfl) 0 (by decide) ?_
      refine Y_iast (Nat.le_of_ble_eq_true rfl) rfl (dk KX9_goes 66 rfl) h (fun hi8 h => ?_)
      refine X_aload_n 0 rfl (dk KX9_goes 67 rfl) ?_
      refine Y_getR 185 fX9_179 (Nat.le_of_ble_eq_true rfl) rfl rfl (dk KX9_goes 68 rfl) ?_
      refine X_iload_n 1 rfl (dk KX9_goes 69 rfl) ?_
      refine X_iconst (dk KX9_goes 70 rfl) 0 (by decide) ?_
      refine Y_iast (Nat.le_of_ble_eq_true rfl) rfl (dk KX9_goes 71 rfl) h (fun hi9 h => ?_)
      refine X_iinc 1 1 [(2, .int (x2 + 1)), (0, .ref 132)] (dk KX9_goes 72 rfl) rfl (by decide) (by decide) rfl ?_
      refine X_goto 82 (dk KX9_goes 73 rfl) (by decide) ?_
      refine X_sub [(0, .ref 132), (2, .int (x2 + 1))] [1, 0] rfl ?_
      exact ih (x2 + 1) (sI (sI (sI (sI σ 182 (x2 : Int32).toNatClampNeg (-1)) 183 (x2 : Int32).toNatClampNeg 0) 184 (x2 : Int32).toNatClampNeg 0) 185 (x2 : Int32).toNatClampNeg 0) h
def fX9_goes_74 (r38 : Int32 → Int32 → PS → Option (PS)) (x1 : Int32) (x2 : Int32) (σ : PS) : Option (PS) := r38 x1 (x2 + 1) σ
set_option maxRecDepth 100000 in
set_option maxHeartbeats 4000000 in
theorem tX9_goes_74 {P : PS → Prop} {r38 : Int32 → Int32 → PS → Option (PS)} (hr_38 : ∀ (x1 : Int32) (x2 : Int32) (σ : PS), hO (r38 x1 x2 σ) P → X g mX9_goes 4 0 0 (pV P) 38 [(0, .ref 132), (1, .int x1), (2, .int x2)] [] (HP σ)) (x1 : Int32) (x2 : Int32) (σ : PS) (h : hO (fX9_goes_74 r38 x1 x2 σ) P) : X g mX9_goes 4 0 0 (pV P) 74 [(0, .ref 132), (1, .int x1), (2, .int x2)] [] (HP σ) := by
  unfold fX9_goes_74 at h
  refine X_iinc 2 1 [(2, .int (x2 + 1)), (0, .ref 132), (1, .int x1)] (dk KX9_goes 45 rfl) rfl (by decide) (by decide) rfl ?_
  refine X_goto 38 (dk KX9_goes 46 rfl) (by decide) ?_
  refine X_sub [(0, .ref 132), (1, .int x1), (2, .int (x2 + 1))] [1, 2, 0] rfl ?_
  exact hr_38 x1 (x2 + 1) σ h
def fX9_goes_38 : Nat → Int32 → Int32 → PS → Option (PS)
  | 0, _, _, _ => none
  | n + 1, x1, x2, σ => (if x1 ≤ x2 then fX9_goes_82 FU 0 σ else gd (inb x2 300) ((if (gi σ 169 (x2 : Int32).toNatClampNeg) = 0 then gd (inb x2 300) (gd (inb x2 300) (gd (inb ((60 * (gi σ 170 (x2 : Int32).toNatClampNeg)) + (gi σ 171 (x2 : Int32).toNatClampNeg)) 480) (fX9_goes_74 (fX9_goes_38 n) x1 x2 (sI σ 181 (((60 * (gi σ 170 (x2 : Int32).toNatClampNeg)) + (gi σ 171 (x2 : Int32).toNatClampNeg)) : Int32).toNatClampNeg (vp_nar .boolean 1))))) else fX9_goes_74 (fX9_goes_38 n) x1 x2 σ)))
set_option maxRecDepth 100000 in
set_option maxHeartbeats 4000000 in
theorem tX9_goes_38 {P : PS → Prop} : ∀ (n : Nat) (x1 : Int32) (x2 : Int32) (σ : PS), hO (fX9_goes_38 n x1 x2 σ) P → X g mX9_goes 4 0 0 (pV P) 38 [(0, .ref 132), (1, .int x1), (2, .int x2)] [] (HP σ) := by
  intro n
  induction n with
  | zero =>
    intro x1 x2 σ h
    rw [fX9_goes_38] at h
    exact (hO_none h).elim
  | succ n ih =>
    intro x1 x2 σ h
    rw [fX9_goes_38] at h
    refine X_iload_n 2 rfl (dk KX9_goes 22 rfl) ?_
    refine X_iload_n 1 rfl (dk KX9_goes 23 rfl) ?_
    refine X_icmp_ge 80 (dk KX9_goes 24 rfl) (by decide) (fun hc => ?_) (fun hc => ?_)
    · have h := hO_t hc h
      refine X_iconst (dk KX9_goes 47 rfl) 0 (by decide) ?_
      refine X_istore_n [(2, .int 0), (0, .ref 132), (1, .int x1)] (dk KX9_goes 48 rfl) (by decide) rfl ?_
      refine X_sub [(0, .ref 132), (2, .int 0)] [1, 0] rfl ?_
      exact tX9_goes_82 FU 0 σ h
    · have h := hO_f hc h
      refine X_aload_n 0 rfl (dk KX9_goes 25 rfl) ?_
      refine Y_getR 169 fX9_128 (Nat.le_of_ble_eq_true rfl) rfl rfl (dk KX9_goes 26 rfl) ?_
      refine X_iload_n 2 rfl (dk KX9_goes 27 rfl) ?_
      refine Y_iald (Nat.le_of_ble_eq_true rfl) rfl (dk KX9_goes 28 rfl) h (fun hi2 h => ?_)
      refine X_if_ne 74 (dk KX9_goes 29 rfl) (by decide) (fun hc => ?_) (fun hc => ?_)
      · have h := hO_f hc h
        exact tX9_goes_74 ih x1 x2 σ h
      · have h := hO_t hc h
        refine X_aload_n 0 rfl (dk KX9_goes 30 rfl) ?_
        refine Y_getR 181 fX9_167 (Nat.le_of_ble_eq_true rfl) rfl rfl (dk KX9_goes 31 rfl) ?_
        refine X_bipush (dk KX9_goes 32 rfl) 60 (by decide) ?_
        refine X_aload_n 0 rfl (dk KX9_goes 33 rfl) ?_
        refine Y_getR 170 fX9_131 (Nat.le_of_ble_eq_true rfl) rfl rfl (dk KX9_goes 34 rfl) ?_
        refine X_iload_n 2 rfl (dk KX9_goes 35 rfl) ?_
        refine Y_iald (Nat.le_of_ble_eq_true rfl) rfl (dk KX9_goes 36 rfl) h (fun hi3 h => ?_)
        refine X_imul (dk KX9_goes 37 rfl) ?_
        refine X_aload_n 0 rfl (dk KX9_goes 38 rfl) ?_
        refine Y_getR 171 fX9_134 (Nat.le_of_ble_eq_true rfl) rfl rfl (dk KX9_goes 39 rfl) ?_
        refine X_iload_n 2 rfl (dk KX9_goes 40 rfl) ?_
        refine Y_iald (Nat.le_of_ble_eq_true rfl) rfl (dk KX9_goes 41 rfl) h (fun hi4 h => ?_)
        refine X_iadd (dk KX9_goes 42 rfl) ?_
        refine X_iconst (dk KX9_goes 43 rfl) 1 (by decide) ?_
        refine Y_zast (Nat.le_of_ble_eq_true rfl) rfl (dk KX9_goes 44 rfl) h (fun hi5 h => ?_)
        exact tX9_goes_74 ih x1 x2 (sI σ 181 (((60 * (gi σ 170 (x2 : Int32).toNatClampNeg)) + (gi σ 171 (x2 : Int32).toNatClampNeg)) : Int32).toNatClampNeg (vp_nar .boolean 1)) h
def fX9_goes_16 : Nat → Int32 → Int32 → PS → Option (PS)
  | 0, _, _, _ => none
  | n + 1, x1, x2, σ => (if 480 ≤ x2 then fX9_goes_38 FU x1 0 σ else gd (inb x2 480) (fX9_goes_16 n x1 (x2 + 1) (sI σ 181 (x2 : Int32).toNatClampNeg (vp_nar .boolean 0))))
set_option maxRecDepth 100000 in
set_option maxHeartbeats 4000000 in
theorem tX9_goes_16 {P : PS → Prop} : ∀ (n : Nat) (x1 : Int32) (x2 : Int32) (σ : PS), hO (fX9_goes_16 n x1 x2 σ) P → X g mX9_goes 4 0 0 (pV P) 16 [(0, .ref 132), (1, .int x1), (2, .int x2)] [] (HP σ) := by
  intro n
  induction n with
  | zero =>
    intro x1 x2 σ h
    rw [fX9_goes_16] at h
    exact (hO_none h).elim
  | succ n ih =>
    intro x1 x2 σ h
    rw [fX9_goes_16] at h
    refine X_iload_n 2 rfl (dk KX9_goes 10 rfl) ?_
    refine X_sipush (dk KX9_goes 11 rfl) 480 (by decide) ?_
    refine X_icmp_ge 36 (dk KX9_goes 12 rfl) (by decide) (fun hc => ?_) (fun hc => ?_)
    · have h := hO_t hc h
      refine X_iconst (dk KX9_goes 20 rfl) 0 (by decide) ?_
      refine X_istore_n [(2, .int 0), (0, .ref 132), (1, .int x1)] (dk KX9_goes 21 rfl) (by decide) rfl ?_
      refine X_sub [(0, .ref 132), (1, .int x1), (2, .int 0)] [1, 2, 0] rfl ?_
      exact tX9_goes_38 FU x1 0 σ h
    · have h := hO_f hc h
      refine X_aload_n 0 rfl (dk KX9_goes 13 rfl) ?_
      refine Y_getR 181 fX9_167 (Nat.le_of_ble_eq_true rfl) rfl rfl (dk KX9_goes 14 rfl) ?_
      refine X_iload_n 2 rfl (dk KX9_goes 15 rfl) ?_
      refine X_iconst (dk KX9_goes 16 rfl) 0 (by decide) ?_
      refine Y_zast (Nat.le_of_ble_eq_true rfl) rfl (dk KX9_goes 17 rfl) h (fun hi1 h => ?_)
      refine X_iinc 2 1 [(2, .int (x2 + 1)), (0, .ref 132), (1, .int x1)] (dk KX9_goes 18 rfl) rfl (by decide) (by decide) rfl ?_
      refine X_goto 16 (dk KX9_goes 19 rfl) (by decide) ?_
      refine X_sub [(0, .ref 132), (1, .int x1), (2, .int (x2 + 1))] [1, 2, 0] rfl ?_
      exact ih x1 (x2 + 1) (sI σ 181 (x2 : Int32).toNatClampNeg (vp_nar .boolean 0)) h
def fX9_goes (a1 : Int32) (σ : PS) : Option (PS) := (if (gi σ 132 58) = a1 then some σ else fX9_goes_16 FU a1 0 (sI σ 132 58 a1))
set_option maxRecDepth 100000 in
set_option maxHeartbeats 4000000 in
theorem okX9_goes (a1 : Int32) (σ : PS) (P : PS → Prop) (h : hO (fX9_goes a1 σ) P) : CON g mX9_goes 4 0 0 [.ref 132, .int a1] (HP σ) (pV P) := by
  refine CON.of (by decide) (by simp [lg_sl, Value.category]) ?_
  show X g _ _ _ _ _ 0 [(0, .ref 132), (1, .int a1)] [] _
  unfold fX9_goes at h
  refine X_aload_n 0 rfl (dk KX9_goes 0 rfl) ?_
  refine Y_getI fX9_137 (Nat.le_of_ble_eq_true rfl) rfl (dk KX9_goes 1 rfl) ?_
  refine X_iload_n 1 rfl (dk KX9_goes 2 rfl) ?_
  refine X_icmp_ne 9 (dk KX9_goes 3 rfl) (by decide) (fun hc => ?_) (fun hc => ?_)
  · have h := hO_f hc h
    refine X_aload_n 0 rfl (dk KX9_goes 5 rfl) ?_
    refine X_iload_n 1 rfl (dk KX9_goes 6 rfl) ?_
    refine Y_putI fX9_137 rfl (Nat.le_of_ble_eq_true rfl) rfl (dk KX9_goes 7 rfl) ?_
    refine X_iconst (dk KX9_goes 8 rfl) 0 (by decide) ?_
    refine X_istore_n [(2, .int 0), (0, .ref 132), (1, .int a1)] (dk KX9_goes 9 rfl) (by decide) rfl ?_
    refine X_sub [(0, .ref 132), (1, .int a1), (2, .int 0)] [1, 2, 0] rfl ?_
    exact tX9_goes_16 FU a1 0 (sI σ 132 58 a1) h
  · have h := hO_t hc h
    exact Y_vret (dk KX9_goes 4 rfl) rfl h

def fX9_isOutside (a1 : Int32) (a2 : Int32) (σ : PS) : Option (Int32 × PS) := gd (inb ((60 * a1) + a2) 360) ((if (gi σ 172 (((60 * a1) + a2) : Int32).toNatClampNeg) = (-1) then some (0, σ) else gd (inb ((60 * a1) + a2) 360) ((if (gi σ 173 (((60 * a1) + a2) : Int32).toNatClampNeg) = (-1) then some (1, σ) else some (0, σ)))))
set_option maxRecDepth 100000 in
set_option maxHeartbeats 4000000 in
theorem okX9_isOutside (a1 : Int32) (a2 : Int32) (σ : PS) (P : Int32 × PS → Prop) (h : hO (fX9_isOutside a1 a2 σ) P) : CON g mX9_isOutside 0 0 0 [.ref 132, .int a1, .int a2] (HP σ) (pI P) := by
  refine CON.of (by decide) (by simp [lg_sl, Value.category]) ?_
  show X g _ _ _ _ _ 0 [(0, .ref 132), (1, .int a1), (2, .int a2)] [] _
  unfold fX9_isOutside at h
  refine X_aload_n 0 rfl (dk KX9_isOutside 0 rfl) ?_
  refine Y_getR 172 fX9_140 (Nat.le_of_ble_eq_true rfl) rfl rfl (dk KX9_isOutside 1 rfl) ?_
  refine X_bipush (dk KX9_isOutside 2 rfl) 60 (by decide) ?_
  refine X_iload_n 1 rfl (dk KX9_isOutside 3 rfl) ?_
  refine X_imul (dk KX9_isOutside 4 rfl) ?_
  refine X_iload_n 2 rfl (dk KX9_isOutside 5 rfl) ?_
  refine X_iadd (dk KX9_isOutside 6 rfl) ?_
  refine Y_iald (Nat.le_of_ble_eq_true rfl) rfl (dk KX9_isOutside 7 rfl) h (fun hi1 h => ?_)
  refine X_iconst (dk KX9_isOutside 8 rfl) (-1) (by decide) ?_
  refine X_icmp_eq 34 (dk KX9_isOutside 9 rfl) (by decide) (fun hc => ?_) (fun hc => ?_)
  · have h := hO_t hc h
    refine X_iconst (dk KX9_isOutside 22 rfl) 0 (by decide) ?_
    exact Y_zret (dk KX9_isOutside 23 rfl) rfl (by decide) h
  · have h := hO_f hc h
    refine X_aload_n 0 rfl (dk KX9_isOutside 10 rfl) ?_
    refine Y_getR 173 fX9_143 (Nat.le_of_ble_eq_true rfl) rfl rfl (dk KX9_isOutside 11 rfl) ?_
    refine X_bipush (dk KX9_isOutside 12 rfl) 60 (by decide) ?_
    refine X_iload_n 1 rfl (dk KX9_isOutside 13 rfl) ?_
    refine X_imul (dk KX9_isOutside 14 rfl) ?_
    refine X_iload_n 2 rfl (dk KX9_isOutside 15 rfl) ?_
    refine X_iadd (dk KX9_isOutside 16 rfl) ?_
    refine Y_iald (Nat.le_of_ble_eq_true rfl) rfl (dk KX9_isOutside 17 rfl) h (fun hi2 h => ?_)
    refine X_iconst (dk KX9_isOutside 18 rfl) (-1) (by decide) ?_
    refine X_icmp_ne 34 (dk KX9_isOutside 19 rfl) (by decide) (fun hc => ?_) (fun hc => ?_)
    · have h := hO_f hc h
      refine X_iconst (dk KX9_isOutside 22 rfl) 0 (by decide) ?_
      exact Y_zret (dk KX9_isOutside 23 rfl) rfl (by decide) h
    · have h := hO_t hc h
      refine X_iconst (dk KX9_isOutside 20 rfl) 1 (by decide) ?_
      refine X_goto 35 (dk KX9_isOutside 21 rfl) (by decide) ?_
      exact Y_zret (dk KX9_isOutside 23 rfl) rfl (by decide) h

def fX9_state (a1 : Int32) (a2 : Int32) (a3 : Int32) (a4 : Int32) (σ : PS) : Option (Int32 × PS) := (fX9_isCaravan a1 σ).bind (fun qy1 => (fun (y1 : Int32) (σ2 : PS) => (if y1 = 0 then some ((-1000000), σ2) else (fX9_isDay a2 σ2).bind (fun qy4 => (fun (y4 : Int32) (σ5 : PS) => (if y4 = 0 then some ((-1000000), σ5) else (fX9_isKnown a3 σ5).bind (fun qy7 => (fun (y7 : Int32) (σ8 : PS) => (if y7 = 0 then some ((-1000000), σ8) else (if a4 < 0 then some ((-1000000), σ8) else (if a4 ≤ 6 then (fX9_goes a3 σ8).bind (fun σ11 => (if a4 = 0 then gd (inb ((60 * a1) + a2) 360) (some ((gi σ11 172 (((60 * a1) + a2) : Int32).toNatClampNeg), σ11)) else (if a4 = 1 then gd (inb ((60 * a1) + a2) 360) (some ((gi σ11 173 (((60 * a1) + a2) : Int32).toNatClampNeg), σ11)) else (if a4 = 2 then gd (inb ((60 * a1) + a2) 360) (some ((gi σ11 174 (((60 * a1) + a2) : Int32).toNatClampNeg), σ11)) else (if a4 = 3 then gd (inb ((60 * a1) + a2) 360) (some ((gi σ11 175 (((60 * a1) + a2) : Int32).toNatClampNeg), σ11)) else (if a4 = 4 then gd (inb ((60 * a1) + a2) 360) (some ((gi σ11 176 (((60 * a1) + a2) : Int32).toNatClampNeg), σ11)) else (if a4 = 5 then (fX9_isOutside a1 a2 σ11).bind (fun qy18 => (fun (y18 : Int32) (σ19 : PS) => (if y18 = 0 then some (0, σ19) else some (1, σ19))) qy18.1 qy18.2) else gd (inb ((60 * a1) + a2) 360) (some ((gi σ11 177 (((60 * a1) + a2) : Int32).toNatClampNeg), σ11))))))))) else some ((-1000000), σ8))))) qy7.1 qy7.2))) qy4.1 qy4.2))) qy1.1 qy1.2)
set_option maxRecDepth 100000 in
set_option maxHeartbeats 4000000 in
theorem okX9_state (a1 : Int32) (a2 : Int32) (a3 : Int32) (a4 : Int32) (σ : PS) (P : Int32 × PS → Prop) (h : hO (fX9_state a1 a2 a3 a4 σ) P) : CON g mX9_state 5 0 0 [.ref 132, .int a1, .int a2, .int a3, .int a4] (HP σ) (pI P) := by
  refine CON.of (by decide) (by simp [lg_sl, Value.category]) ?_
  show X g _ _ _ _ _ 0 [(0, .ref 132), (1, .int a1), (2, .int a2), (3, .int a3), (4, .int a4)] [] _
  unfold fX9_state at h
  refine X_aload_n 0 rfl (dk KX9_state 0 rfl) ?_
  refine X_iload_n 1 rfl (dk KX9_state 1 rfl) ?_
  refine Y_callVI wX9_327 (Nat.le_of_ble_eq_true rfl) rfl [.int a1] [] rfl rfl (Nat.le_of_ble_eq_true rfl) (Nat.le_of_ble_eq_true rfl) (dk KX9_state 2 rfl) (fun Pc h => okX9_isCaravan _ _ Pc h) h (fun y1 σ2 e3 h => ?_)
  try dsimp only at h
  refine X_if_eq 35 (dk KX9_state 3 rfl) (by decide) (fun hc => ?_) (fun hc => ?_)
  · have h := hO_t hc h
    refine Y_ldcw cstX9_369 (dk KX9_state 16 rfl) ?_
    exact Y_iret (dk KX9_state 17 rfl) rfl h
  · have h := hO_f hc h
    refine X_iload_n 2 rfl (dk KX9_state 4 rfl) ?_
    refine Y_callSI wX9_321 [.int a2] [] rfl rfl (Nat.le_of_ble_eq_true rfl) (Nat.le_of_ble_eq_true rfl) (dk KX9_state 5 rfl) (fun Pc h => okX9_isDay _ _ Pc h) h (fun y4 σ5 e6 h => ?_)
    try dsimp only at h
    refine X_if_eq 35 (dk KX9_state 6 rfl) (by decide) (fun hc => ?_) (fun hc => ?_)
    · have h := hO_t hc h
      refine Y_ldcw cstX9_369 (dk KX9_state 16 rfl) ?_
      exact Y_iret (dk KX9_state 17 rfl) rfl h
    · have h := hO_f hc h
      refine X_aload_n 0 rfl (dk KX9_state 7 rfl) ?_
      refine X_iload_n 3 rfl (dk KX9_state 8 rfl) ?_
      refine Y_callVI wX9_366 (Nat.le_of_ble_eq_true rfl) rfl [.int a3] [] rfl rfl (Nat.le_of_ble_eq_true rfl) (Nat.le_of_ble_eq_true rfl) (dk KX9_state 9 rfl) (fun Pc h => okX9_isKnown _ _ Pc h) h (fun y7 σ8 e9 h => ?_)
      try dsimp only at h
      refine X_if_eq 35 (dk KX9_state 10 rfl) (by decide) (fun hc => ?_) (fun hc => ?_)
      · have h := hO_t hc h
        refine Y_ldcw cstX9_369 (dk KX9_state 16 rfl) ?_
        exact Y_iret (dk KX9_state 17 rfl) rfl h
      · have h := hO_f hc h
        refine X_iload 4 rfl (dk KX9_state 11 rfl) ?_
        refine X_if_lt 35 (dk KX9_state 12 rfl) (by decide) (fun hc => ?_) (fun hc => ?_)
        · have h := hO_t hc h
          refine Y_ldcw cstX9_369 (dk KX9_state 16 rfl) ?_
          exact Y_iret (dk KX9_state 17 rfl) rfl h
        · have h := hO_f hc h
          refine X_iload 4 rfl (dk KX9_state 13 rfl) ?_
          refine X_bipush (dk KX9_state 14 rfl) 6 (by decide) ?_
          refine X_icmp_le 39 (dk KX9_state 15 rfl) (by decide) (fun hc => ?_) (fun hc => ?_)
          · have h := hO_t hc h
            refine X_aload_n 0 rfl (dk KX9_state 18 rfl) ?_
            refine X_iload_n 3 rfl (dk KX9_state 19 rfl) ?_
            refine Y_callVV wX9_370 (Nat.le_of_ble_eq_true rfl) rfl [.int a3] [] rfl rfl (Nat.le_of_ble_eq_true rfl) (Nat.le_of_ble_eq_true rfl) (dk KX9_state 20 rfl) (fun Pc h => okX9_goes _ _ Pc h) h (fun σ11 e12 h => ?_)
            try dsimp only at h
            refine X_bipush (dk KX9_state 21 rfl) 60 (by decide) ?_
            refine X_iload_n 1 rfl (dk KX9_state 22 rfl) ?_
            refine X_imul (dk KX9_state 23 rfl) ?_
            refine X_iload_n 2 rfl (dk KX9_state 24 rfl) ?_
            refine X_iadd (dk KX9_state 25 rfl) ?_
            refine X_istore [(5, .int ((60 * a1) + a2)), (0, .ref 132), (1, .int a1), (2, .int a2), (3, .int a3), (4, .int a4)] (dk KX9_state 26 rfl) (by decide) rfl ?_
            refine X_iload 5 rfl (dk KX9_state 27 rfl) ?_
            by_cases hs0 : a4 = (0 : Int32)
            · have h := hO_t hs0 h
              refine Y_tab 0 hs0 92 (dk KX9_state 28 rfl) (by decide) (by decide) rfl (by decide) ?_
              refine X_aload_n 1 rfl (dk KX9_state 29 rfl) ?_
              refine Y_getR 172 fX9_140 (Nat.le_of_ble_eq_true rfl) rfl rfl (dk KX9_state 30 rfl) ?_
              refine X_iload 0 rfl (dk KX9_state 31 rfl) ?_
              refine Y_iald (Nat.le_of_ble_eq_true rfl) rfl (dk KX9_state 32 rfl) h (fun hi13 h => ?_)
              exact Y_iret (dk KX9_state 33 rfl) rfl h
            have h := hO_f hs0 h
            by_cases hs1 : a4 = (1 : Int32)
            · have h := hO_t hs1 h
              refine Y_tab 1 hs1 100 (dk KX9_state 28 rfl) (by decide) (by decide) rfl (by decide) ?_
              refine X_aload_n 1 rfl (dk KX9_state 34 rfl) ?_
              refine Y_getR 173 fX9_143 (Nat.le_of_ble_eq_true rfl) rfl rfl (dk KX9_state 35 rfl) ?_
              refine X_iload 0 rfl (dk KX9_state 36 rfl) ?_
              refine Y_iald (Nat.le_of_ble_eq_true rfl) rfl (dk KX9_state 37 rfl) h (fun hi14 h => ?_)
              exact Y_iret (dk KX9_state 38 rfl) rfl h
            have h := hO_f hs1 h
            by_cases hs2 : a4 = (2 : Int32)
            · have h := hO_t hs2 h
              refine Y_tab 2 hs2 108 (dk KX9_state 28 rfl) (by decide) (by decide) rfl (by decide) ?_
              refine X_aload_n 1 rfl (dk KX9_state 39 rfl) ?_
              refine Y_getR 174 fX9_146 (Nat.le_of_ble_eq_true rfl) rfl rfl (dk KX9_state 40 rfl) ?_
              refine X_iload 0 rfl (dk KX9_state 41 rfl) ?_
              refine Y_iald (Nat.le_of_ble_eq_true rfl) rfl (dk KX9_state 42 rfl) h (fun hi15 h => ?_)
              exact Y_iret (dk KX9_state 43 rfl) rfl h
            have h := hO_f hs2 h
            by_cases hs3 : a4 = (3 : Int32)
            · have h := hO_t hs3 h
              refine Y_tab 3 hs3 116 (dk KX9_state 28 rfl) (by decide) (by decide) rfl (by decide) ?_
              refine X_aload_n 1 rfl (dk KX9_state 44 rfl) ?_
              refine Y_getR 175 fX9_149 (Nat.le_of_ble_eq_true rfl) rfl rfl (dk KX9_state 45 rfl) ?_
              refine X_iload 0 rfl (dk KX9_state 46 rfl) ?_
              refine Y_iald (Nat.le_of_ble_eq_true rfl) rfl (dk KX9_state 47 rfl) h (fun hi16 h => ?_)
              exact Y_iret (dk KX9_state 48 rfl) rfl h
            have h := hO_f hs3 h
            by_cases hs4 : a4 = (4 : Int32)
            · have h := hO_t hs4 h
              refine Y_tab 4 hs4 124 (dk KX9_state 28 rfl) (by decide) (by decide) rfl (by decide) ?_
              refine X_aload_n 1 rfl (dk KX9_state 49 rfl) ?_
              refine Y_getR 176 fX9_152 (Nat.le_of_ble_eq_true rfl) rfl rfl (dk KX9_state 50 rfl) ?_
              refine X_iload 0 rfl (dk KX9_state 51 rfl) ?_
              refine Y_iald (Nat.le_of_ble_eq_true rfl) rfl (dk KX9_state 52 rfl) h (fun hi17 h => ?_)
              exact Y_iret (dk KX9_state 53 rfl) rfl h
            have h := hO_f hs4 h
            by_cases hs5 : a4 = (5 : Int32)
            · have h := hO_t hs5 h
              refine Y_tab 5 hs5 132 (dk KX9_state 28 rfl) (by decide) (by decide) rfl (by decide) ?_
              refine X_aload_n 1 rfl (dk KX9_state 54 rfl) ?_
              refine X_iload_n 2 rfl (dk KX9_state 55 rfl) ?_
              refine X_iload_n 3 rfl (dk KX9_state 56 rfl) ?_
              refine Y_callVI wX9_373 (Nat.le_of_ble_eq_true rfl) rfl [.int a1, .int a2] [] rfl rfl (Nat.le_of_ble_eq_true rfl) (Nat.le_of_ble_eq_true rfl) (dk KX9_state 57 rfl) (fun Pc h => okX9_isOutside _ _ _ Pc h) h (fun y18 σ19 e20 h => ?_)
              try dsimp only at h
              refine X_if_eq 145 (dk KX9_state 58 rfl) (by decide) (fun hc => ?_) (fun hc => ?_)
              · have h := hO_t hc h
                refine X_iconst (dk KX9_state 61 rfl) 0 (by decide) ?_
                exact Y_iret (dk KX9_state 62 rfl) rfl h
              · have h := hO_f hc h
                refine X_iconst (dk KX9_state 59 rfl) 1 (by decide) ?_
                refine X_goto 146 (dk KX9_state 60 rfl) (by decide) ?_
                exact Y_iret (dk KX9_state 62 rfl) rfl h
            have h := hO_f hs5 h
            refine X_tableOut 147 (dk KX9_state 28 rfl) (sw_out_0_5 hs0 hs1 hs2 hs3 hs4 hs5) (by decide) ?_
            refine X_aload_n 1 rfl (dk KX9_state 63 rfl) ?_
            refine Y_getR 177 fX9_155 (Nat.le_of_ble_eq_true rfl) rfl rfl (dk KX9_state 64 rfl) ?_
            refine X_iload 0 rfl (dk KX9_state 65 rfl) ?_
            refine Y_iald (Nat.le_of_ble_eq_true rfl) rfl (dk KX9_state 66 rfl) h (fun hi21 h => ?_)
            exact Y_iret (dk KX9_state 67 rfl) rfl h
          · have h := hO_f hc h
            refine Y_ldcw cstX9_369 (dk KX9_state 16 rfl) ?_
            exact Y_iret (dk KX9_state 17 rfl) rfl h

def fX9_house_132 (r73 : Int32 → Int32 → Int32 → Int32 → Int32 → Int32 → Int32 → PS → Option (Int32 × PS)) (x1 : Int32) (x2 : Int32) (x4 : Int32) (x5 : Int32) (x6 : Int32) (x7 : Int32) (x8 : Int32) (σ : PS) : Option (Int32 × PS) := r73 x1 x2 x4 x5 x6 x7 (x8 + 1) σ
set_option maxRecDepth 100000 in
set_option maxHeartbeats 4000000 in
theorem tX9_house_132 {P : Int32 × PS → Prop} {r73 : Int32 → Int32 → Int32 → Int32 → Int32 → Int32 → Int32 → PS → Option (Int32 × PS)} (hr_73 : ∀ (x1 : Int32) (x2 : Int32) (x4 : Int32) (x5 : Int32) (x6 : Int32) (x7 : Int32) (x8 : Int32) (σ : PS), hO (r73 x1 x2 x4 x5 x6 x7 x8 σ) P → X g mX9_house 5 0 0 (pI P) 73 [(0, .ref 132), (1, .int x1), (2, .int x2), (4, .int x4), (5, .int x5), (6, .int x6), (7, .int x7), (8, .int x8)] [] (HP σ)) (x1 : Int32) (x2 : Int32) (x4 : Int32) (x5 : Int32) (x6 : Int32) (x7 : Int32) (x8 : Int32) (σ : PS) (h : hO (fX9_house_132 r73 x1 x2 x4 x5 x6 x7 x8 σ) P) : X g mX9_house 5 0 0 (pI P) 132 [(0, .ref 132), (1, .int x1), (2, .int x2), (4, .int x4), (5, .int x5), (6, .int x6), (7, .int x7), (8, .int x8)] [] (HP σ) := by
  unfold fX9_house_132 at h
  refine X_iinc 7 1 [(8, .int (x8 + 1)), (0, .ref 132), (1, .int x1), (2, .int x2), (4, .int x4), (5, .int x5), (6, .int x6), (7, .int x7)] (dk KX9_house 71 rfl) rfl (by decide) (by decide) rfl ?_
  refine X_goto 73 (dk KX9_house 72 rfl) (by decide) ?_
  refine X_sub [(0, .ref 132), (1, .int x1), (2, .int x2), (4, .int x4), (5, .int x5), (6, .int x6), (7, .int x7), (8, .int (x8 + 1))] [1, 2, 3, 4, 5, 6, 7, 0] rfl ?_
  exact hr_73 x1 x2 x4 x5 x6 x7 (x8 + 1) σ h
def fX9_house_73 : Nat → Int32 → Int32 → Int32 → Int32 → Int32 → Int32 → Int32 → PS → Option (Int32 × PS)
  | 0, _, _, _, _, _, _, _, _ => none
  | n + 1, x1, x2, x4, x5, x6, x7, x8, σ => (if (gi σ 132 44) ≤ x8 then (if x4 = 0 then some (x5, σ) else (if x4 = 2 then some (x6, σ) else some (x7, σ))) else gd (inb ((60 * x8) + x2) 360) ((if (gi σ 172 (((60 * x8) + x2) : Int32).toNatClampNeg) = x1 then (fX9_isOutside x8 x2 σ).bind (fun qy15 => (fun (y15 : Int32) (σ16 : PS) => (if y15 = 0 then gd (inb x8 6) (fX9_house_132 (fX9_house_73 n) x1 x2 x4 (x5 + (gi σ16 162 (x8 : Int32).toNatClampNeg)) (x6 + 1) x7 x8 σ16) else fX9_house_132 (fX9_house_73 n) x1 x2 x4 x5 x6 (x7 + 1) x8 σ16)) qy15.1 qy15.2) else fX9_house_132 (fX9_house_73 n) x1 x2 x4 x5 x6 x7 x8 σ)))
set_option maxRecDepth 100000 in
set_option maxHeartbeats 4000000 in
theorem tX9_house_73 {P : Int32 × PS → Prop} : ∀ (n : Nat) (x1 : Int32) (x2 : Int32) (x4 : Int32) (x5 : Int32) (x6 : Int32) (x7 : Int32) (x8 : Int32) (σ : PS), hO (fX9_house_73 n x1 x2 x4 x5 x6 x7 x8 σ) P → X g mX9_house 5 0 0 (pI P) 73 [(0, .ref 132), (1, .int x1), (2, .int x2), (4, .int x4), (5, .int x5), (6, .int x6), (7, .int x7), (8, .int x8)] [] (HP σ) := by
  intro n
  induction n with
  | zero =>
    intro x1 x2 x4 x5 x6 x7 x8 σ h
    rw [fX9_house_73] at h
    exact (hO_none h).elim
  | succ n ih =>
    intro x1 x2 x4 x5 x6 x7 x8 σ h
    rw [fX9_house_73] at h
    refine X_iload 7 rfl (dk KX9_house 41 rfl) ?_
    refine X_aload_n 0 rfl (dk KX9_house 42 rfl) ?_
    refine Y_getI fX9_312 (Nat.le_of_ble_eq_true rfl) rfl (dk KX9_house 43 rfl) ?_
    refine X_icmp_ge 138 (dk KX9_house 44 rfl) (by decide) (fun hc => ?_) (fun hc => ?_)
    · have h := hO_t hc h
      refine X_iload 3 rfl (dk KX9_house 73 rfl) ?_
      refine X_if_ne 148 (dk KX9_house 74 rfl) (by decide) (fun hc => ?_) (fun hc => ?_)
      · have h := hO_f hc h
        refine X_iload 3 rfl (dk KX9_house 77 rfl) ?_
        refine X_iconst (dk KX9_house 78 rfl) 2 (by decide) ?_
        refine X_icmp_ne 159 (dk KX9_house 79 rfl) (by decide) (fun hc => ?_) (fun hc => ?_)
        · have h := hO_f hc h
          refine X_iload 6 rfl (dk KX9_house 82 rfl) ?_
          exact Y_iret (dk KX9_house 83 rfl) rfl h
        · have h := hO_t hc h
          refine X_iload 5 rfl (dk KX9_house 80 rfl) ?_
          refine X_goto 161 (dk KX9_house 81 rfl) (by decide) ?_
          exact Y_iret (dk KX9_house 83 rfl) rfl h
      · have h := hO_t hc h
        refine X_iload 4 rfl (dk KX9_house 75 rfl) ?_
        refine X_goto 161 (dk KX9_house 76 rfl) (by decide) ?_
        exact Y_iret (dk KX9_house 83 rfl) rfl h
    · have h := hO_f hc h
      refine X_aload_n 0 rfl (dk KX9_house 45 rfl) ?_
      refine Y_getR 172 fX9_140 (Nat.le_of_ble_eq_true rfl) rfl rfl (dk KX9_house 46 rfl) ?_
      refine X_bipush (dk KX9_house 47 rfl) 60 (by decide) ?_
      refine X_iload 7 rfl (dk KX9_house 48 rfl) ?_
      refine X_imul (dk KX9_house 49 rfl) ?_
      refine X_iload_n 2 rfl (dk KX9_house 50 rfl) ?_
      refine X_iadd (dk KX9_house 51 rfl) ?_
      refine Y_iald (Nat.le_of_ble_eq_true rfl) rfl (dk KX9_house 52 rfl) h (fun hi14 h => ?_)
      refine X_iload_n 1 rfl (dk KX9_house 53 rfl) ?_
      refine X_icmp_eq 101 (dk KX9_house 54 rfl) (by decide) (fun hc => ?_) (fun hc => ?_)
      · have h := hO_t hc h
        refine X_aload_n 0 rfl (dk KX9_house 56 rfl) ?_
        refine X_iload 7 rfl (dk KX9_house 57 rfl) ?_
        refine X_iload_n 2 rfl (dk KX9_house 58 rfl) ?_
        refine Y_callVI wX9_373 (Nat.le_of_ble_eq_true rfl) rfl [.int x8, .int x2] [] rfl rfl (Nat.le_of_ble_eq_true rfl) (Nat.le_of_ble_eq_true rfl) (dk KX9_house 59 rfl) (fun Pc h => okX9_isOutside _ _ _ Pc h) h (fun y15 σ16 e17 h => ?_)
        try dsimp only at h
        refine X_if_eq 117 (dk KX9_house 60 rfl) (by decide) (fun hc => ?_) (fun hc => ?_)
        · have h := hO_t hc h
          refine X_iinc 5 1 [(6, .int (x6 + 1)), (0, .ref 132), (1, .int x1), (2, .int x2), (4, .int x4), (5, .int x5), (7, .int x7), (8, .int x8)] (dk KX9_house 63 rfl) rfl (by decide) (by decide) rfl ?_
          refine X_iload 5 rfl (dk KX9_house 64 rfl) ?_
          refine X_aload_n 1 rfl (dk KX9_house 65 rfl) ?_
          refine Y_getR 162 fX9_107 (Nat.le_of_ble_eq_true rfl) rfl rfl (dk KX9_house 66 rfl) ?_
          refine X_iload 7 rfl (dk KX9_house 67 rfl) ?_
          refine Y_iald (Nat.le_of_ble_eq_true rfl) rfl (dk KX9_house 68 rfl) h (fun hi18 h => ?_)
          refine X_iadd (dk KX9_house 69 rfl) ?_
          refine X_istore [(5, .int (x5 + (gi σ16 162 (x8 : Int32).toNatClampNeg))), (6, .int (x6 + 1)), (0, .ref 132), (1, .int x1), (2, .int x2), (4, .int x4), (7, .int x7), (8, .int x8)] (dk KX9_house 70 rfl) (by decide) rfl ?_
          refine X_sub [(0, .ref 132), (1, .int x1), (2, .int x2), (4, .int x4), (5, .int (x5 + (gi σ16 162 (x8 : Int32).toNatClampNeg))), (6, .int (x6 + 1)), (7, .int x7), (8, .int x8)] [2, 3, 4, 5, 0, 1, 6, 7] rfl ?_
          exact tX9_house_132 ih x1 x2 x4 (x5 + (gi σ16 162 (x8 : Int32).toNatClampNeg)) (x6 + 1) x7 x8 σ16 h
        · have h := hO_f hc h
          refine X_iinc 6 1 [(7, .int (x7 + 1)), (0, .ref 132), (1, .int x1), (2, .int x2), (4, .int x4), (5, .int x5), (6, .int x6), (8, .int x8)] (dk KX9_house 61 rfl) rfl (by decide) (by decide) rfl ?_
          refine X_goto 132 (dk KX9_house 62 rfl) (by decide) ?_
          refine X_sub [(0, .ref 132), (1, .int x1), (2, .int x2), (4, .int x4), (5, .int x5), (6, .int x6), (7, .int (x7 + 1)), (8, .int x8)] [1, 2, 3, 4, 5, 6, 0, 7] rfl ?_
          exact tX9_house_132 ih x1 x2 x4 x5 x6 (x7 + 1) x8 σ16 h
      · have h := hO_f hc h
        refine X_goto 132 (dk KX9_house 55 rfl) (by decide) ?_
        exact tX9_house_132 ih x1 x2 x4 x5 x6 x7 x8 σ h
def fX9_house (a1 : Int32) (a2 : Int32) (a3 : Int32) (a4 : Int32) (σ : PS) : Option (Int32 × PS) := (fX9_isInn a1 σ).bind (fun qy1 => (fun (y1 : Int32) (σ2 : PS) => (if y1 = 0 then some ((-1000000), σ2) else (fX9_isDay a2 σ2).bind (fun qy4 => (fun (y4 : Int32) (σ5 : PS) => (if y4 = 0 then some ((-1000000), σ5) else (fX9_isKnown a3 σ5).bind (fun qy7 => (fun (y7 : Int32) (σ8 : PS) => (if y7 = 0 then some ((-1000000), σ8) else (if a4 < 0 then some ((-1000000), σ8) else (if a4 ≤ 3 then (fX9_goes a3 σ8).bind (fun σ11 => (if a4 = 1 then gd (inb ((60 * a1) + a2) 480) (some ((gi σ11 179 (((60 * a1) + a2) : Int32).toNatClampNeg), σ11)) else fX9_house_73 FU a1 a2 a4 0 0 0 0 σ11)) else some ((-1000000), σ8))))) qy7.1 qy7.2))) qy4.1 qy4.2))) qy1.1 qy1.2)
set_option maxRecDepth 100000 in
set_option maxHeartbeats 4000000 in
theorem okX9_house (a1 : Int32) (a2 : Int32) (a3 : Int32) (a4 : Int32) (σ : PS) (P : Int32 × PS → Prop) (h : hO (fX9_house a1 a2 a3 a4 σ) P) : CON g mX9_house 5 0 0 [.ref 132, .int a1, .int a2, .int a3, .int a4] (HP σ) (pI P) := by
  refine CON.of (by decide) (by simp [lg_sl, Value.category]) ?_
  show X g _ _ _ _ _ 0 [(0, .ref 132), (1, .int a1), (2, .int a2), (3, .int a3), (4, .int a4)] [] _
  unfold fX9_house at h
  refine X_aload_n 0 rfl (dk KX9_house 0 rfl) ?_
  refine X_iload_n 1 rfl (dk KX9_house 1 rfl) ?_
  refine Y_callVI wX9_318 (Nat.le_of_ble_eq_true rfl) rfl [.int a1] [] rfl rfl (Nat.le_of_ble_eq_true rfl) (Nat.le_of_ble_eq_true rfl) (dk KX9_house 2 rfl) (fun Pc h => okX9_isInn _ _ Pc h) h (fun y1 σ2 e3 h => ?_)
  try dsimp only at h
  refine X_if_eq 34 (dk KX9_house 3 rfl) (by decide) (fun hc => ?_) (fun hc => ?_)
  · have h := hO_t hc h
    refine Y_ldcw cstX9_369 (dk KX9_house 16 rfl) ?_
    exact Y_iret (dk KX9_house 17 rfl) rfl h
  · have h := hO_f hc h
    refine X_iload_n 2 rfl (dk KX9_house 4 rfl) ?_
    refine Y_callSI wX9_321 [.int a2] [] rfl rfl (Nat.le_of_ble_eq_true rfl) (Nat.le_of_ble_eq_true rfl) (dk KX9_house 5 rfl) (fun Pc h => okX9_isDay _ _ Pc h) h (fun y4 σ5 e6 h => ?_)
    try dsimp only at h
    refine X_if_eq 34 (dk KX9_house 6 rfl) (by decide) (fun hc => ?_) (fun hc => ?_)
    · have h := hO_t hc h
      refine Y_ldcw cstX9_369 (dk KX9_house 16 rfl) ?_
      exact Y_iret (dk KX9_house 17 rfl) rfl h
    · have h := hO_f hc h
      refine X_aload_n 0 rfl (dk KX9_house 7 rfl) ?_
      refine X_iload_n 3 rfl (dk KX9_house 8 rfl) ?_
      refine Y_callVI wX9_366 (Nat.le_of_ble_eq_true rfl) rfl [.int a3] [] rfl rfl (Nat.le_of_ble_eq_true rfl) (Nat.le_of_ble_eq_true rfl) (dk KX9_house 9 rfl) (fun Pc h => okX9_isKnown _ _ Pc h) h (fun y7 σ8 e9 h => ?_)
      try dsimp only at h
      refine X_if_eq 34 (dk KX9_house 10 rfl) (by decide) (fun hc => ?_) (fun hc => ?_)
      · have h := hO_t hc h
        refine Y_ldcw cstX9_369 (dk KX9_house 16 rfl) ?_
        exact Y_iret (dk KX9_house 17 rfl) rfl h
      · have h := hO_f hc h
        refine X_iload 4 rfl (dk KX9_house 11 rfl) ?_
        refine X_if_lt 34 (dk KX9_house 12 rfl) (by decide) (fun hc => ?_) (fun hc => ?_)
        · have h := hO_t hc h
          refine Y_ldcw cstX9_369 (dk KX9_house 16 rfl) ?_
          exact Y_iret (dk KX9_house 17 rfl) rfl h
        · have h := hO_f hc h
          refine X_iload 4 rfl (dk KX9_house 13 rfl) ?_
          refine X_iconst (dk KX9_house 14 rfl) 3 (by decide) ?_
          refine X_icmp_le 38 (dk KX9_house 15 rfl) (by decide) (fun hc => ?_) (fun hc => ?_)
          · have h := hO_t hc h
            refine X_aload_n 0 rfl (dk KX9_house 18 rfl) ?_
            refine X_iload_n 3 rfl (dk KX9_house 19 rfl) ?_
            refine Y_callVV wX9_370 (Nat.le_of_ble_eq_true rfl) rfl [.int a3] [] rfl rfl (Nat.le_of_ble_eq_true rfl) (Nat.le_of_ble_eq_true rfl) (dk KX9_house 20 rfl) (fun Pc h => okX9_goes _ _ Pc h) h (fun σ11 e12 h => ?_)
            try dsimp only at h
            refine X_iload 4 rfl (dk KX9_house 21 rfl) ?_
            refine X_iconst (dk KX9_house 22 rfl) 1 (by decide) ?_
            refine X_icmp_ne 61 (dk KX9_house 23 rfl) (by decide) (fun hc => ?_) (fun hc => ?_)
            · have h := hO_f hc h
              refine X_iconst (dk KX9_house 33 rfl) 0 (by decide) ?_
              refine X_istore [(5, .int 0), (0, .ref 132), (1, .int a1), (2, .int a2), (3, .int a3), (4, .int a4)] (dk KX9_house 34 rfl) (by decide) rfl ?_
              refine X_iconst (dk KX9_house 35 rfl) 0 (by decide) ?_
              refine X_istore [(6, .int 0), (5, .int 0), (0, .ref 132), (1, .int a1), (2, .int a2), (3, .int a3), (4, .int a4)] (dk KX9_house 36 rfl) (by decide) rfl ?_
              refine X_iconst (dk KX9_house 37 rfl) 0 (by decide) ?_
              refine X_istore [(7, .int 0), (6, .int 0), (5, .int 0), (0, .ref 132), (1, .int a1), (2, .int a2), (3, .int a3), (4, .int a4)] (dk KX9_house 38 rfl) (by decide) rfl ?_
              refine X_iconst (dk KX9_house 39 rfl) 0 (by decide) ?_
              refine X_istore [(8, .int 0), (7, .int 0), (6, .int 0), (5, .int 0), (0, .ref 132), (1, .int a1), (2, .int a2), (3, .int a3), (4, .int a4)] (dk KX9_house 40 rfl) (by decide) rfl ?_
              refine X_sub [(0, .ref 132), (1, .int a1), (2, .int a2), (4, .int a4), (5, .int 0), (6, .int 0), (7, .int 0), (8, .int 0)] [4, 5, 6, 8, 3, 2, 1, 0] rfl ?_
              exact tX9_house_73 FU a1 a2 a4 0 0 0 0 σ11 h
            · have h := hO_t hc h
              refine X_aload_n 0 rfl (dk KX9_house 24 rfl) ?_
              refine Y_getR 179 fX9_161 (Nat.le_of_ble_eq_true rfl) rfl rfl (dk KX9_house 25 rfl) ?_
              refine X_bipush (dk KX9_house 26 rfl) 60 (by decide) ?_
              refine X_iload_n 1 rfl (dk KX9_house 27 rfl) ?_
              refine X_imul (dk KX9_house 28 rfl) ?_
              refine X_iload_n 2 rfl (dk KX9_house 29 rfl) ?_
              refine X_iadd (dk KX9_house 30 rfl) ?_
              refine Y_iald (Nat.le_of_ble_eq_true rfl) rfl (dk KX9_house 31 rfl) h (fun hi13 h => ?_)
              exact Y_iret (dk KX9_house 32 rfl) rfl h
          · have h := hO_f hc h
            refine Y_ldcw cstX9_369 (dk KX9_house 16 rfl) ?_
            exact Y_iret (dk KX9_house 17 rfl) rfl h

def fX9_full_107 (r54 : Int32 → Int32 → Int32 → Int32 → Int32 → PS → Option (Int32 × PS)) (x1 : Int32) (x2 : Int32) (x3 : Int32) (x5 : Int32) (x6 : Int32) (σ : PS) : Option (Int32 × PS) := r54 x1 x2 x3 x5 (x6 + 1) σ
set_option maxRecDepth 100000 in
set_option maxHeartbeats 4000000 in
theorem tX9_full_107 {P : Int32 × PS → Prop} {r54 : Int32 → Int32 → Int32 → Int32 → Int32 → PS → Option (Int32 × PS)} (hr_54 : ∀ (x1 : Int32) (x2 : Int32) (x3 : Int32) (x5 : Int32) (x6 : Int32) (σ : PS), hO (r54 x1 x2 x3 x5 x6 σ) P → X g mX9_full 5 0 0 (pI P) 54 [(0, .ref 132), (1, .int x1), (2, .int x2), (3, .int x3), (5, .int x5), (6, .int x6)] [] (HP σ)) (x1 : Int32) (x2 : Int32) (x3 : Int32) (x5 : Int32) (x6 : Int32) (σ : PS) (h : hO (fX9_full_107 r54 x1 x2 x3 x5 x6 σ) P) : X g mX9_full 5 0 0 (pI P) 107 [(0, .ref 132), (1, .int x1), (2, .int x2), (3, .int x3), (5, .int x5), (6, .int x6)] [] (HP σ) := by
  unfold fX9_full_107 at h
  refine X_iinc 5 1 [(6, .int (x6 + 1)), (0, .ref 132), (1, .int x1), (2, .int x2), (3, .int x3), (5, .int x5)] (dk KX9_full 59 rfl) rfl (by decide) (by decide) rfl ?_
  refine X_goto 54 (dk KX9_full 60 rfl) (by decide) ?_
  refine X_sub [(0, .ref 132), (1, .int x1), (2, .int x2), (3, .int x3), (5, .int x5), (6, .int (x6 + 1))] [1, 2, 3, 4, 5, 0] rfl ?_
  exact hr_54 x1 x2 x3 x5 (x6 + 1) σ h
def fX9_full_54 : Nat → Int32 → Int32 → Int32 → Int32 → Int32 → PS → Option (Int32 × PS)
  | 0, _, _, _, _, _, _ => none
  | n + 1, x1, x2, x3, x5, x6, σ => (if (gi σ 132 44) ≤ x6 then some (x5, σ) else gd (inb ((60 * x6) + x3) 360) ((if (gi σ 172 (((60 * x6) + x3) : Int32).toNatClampNeg) = x1 then gd (inb ((60 * x6) + x3) 360) ((if (gi σ 173 (((60 * x6) + x3) : Int32).toNatClampNeg) = x2 then gd (inb x6 6) (fX9_full_107 (fX9_full_54 n) x1 x2 x3 (x5 + (gi σ 163 (x6 : Int32).toNatClampNeg)) x6 σ) else fX9_full_107 (fX9_full_54 n) x1 x2 x3 x5 x6 σ)) else fX9_full_107 (fX9_full_54 n) x1 x2 x3 x5 x6 σ)))
set_option maxRecDepth 100000 in
set_option maxHeartbeats 4000000 in
theorem tX9_full_54 {P : Int32 × PS → Prop} : ∀ (n : Nat) (x1 : Int32) (x2 : Int32) (x3 : Int32) (x5 : Int32) (x6 : Int32) (σ : PS), hO (fX9_full_54 n x1 x2 x3 x5 x6 σ) P → X g mX9_full 5 0 0 (pI P) 54 [(0, .ref 132), (1, .int x1), (2, .int x2), (3, .int x3), (5, .int x5), (6, .int x6)] [] (HP σ) := by
  intro n
  induction n with
  | zero =>
    intro x1 x2 x3 x5 x6 σ h
    rw [fX9_full_54] at h
    exact (hO_none h).elim
  | succ n ih =>
    intro x1 x2 x3 x5 x6 σ h
    rw [fX9_full_54] at h
    refine X_iload 5 rfl (dk KX9_full 28 rfl) ?_
    refine X_aload_n 0 rfl (dk KX9_full 29 rfl) ?_
    refine Y_getI fX9_312 (Nat.le_of_ble_eq_true rfl) rfl (dk KX9_full 30 rfl) ?_
    refine X_icmp_ge 113 (dk KX9_full 31 rfl) (by decide) (fun hc => ?_) (fun hc => ?_)
    · have h := hO_t hc h
      refine X_iload 4 rfl (dk KX9_full 61 rfl) ?_
      exact Y_iret (dk KX9_full 62 rfl) rfl h
    · have h := hO_f hc h
      refine X_aload_n 0 rfl (dk KX9_full 32 rfl) ?_
      refine Y_getR 172 fX9_140 (Nat.le_of_ble_eq_true rfl) rfl rfl (dk KX9_full 33 rfl) ?_
      refine X_bipush (dk KX9_full 34 rfl) 60 (by decide) ?_
      refine X_iload 5 rfl (dk KX9_full 35 rfl) ?_
      refine X_imul (dk KX9_full 36 rfl) ?_
      refine X_iload_n 3 rfl (dk KX9_full 37 rfl) ?_
      refine X_iadd (dk KX9_full 38 rfl) ?_
      refine Y_iald (Nat.le_of_ble_eq_true rfl) rfl (dk KX9_full 39 rfl) h (fun hi14 h => ?_)
      refine X_iload_n 1 rfl (dk KX9_full 40 rfl) ?_
      refine X_icmp_ne 107 (dk KX9_full 41 rfl) (by decide) (fun hc => ?_) (fun hc => ?_)
      · have h := hO_f hc h
        exact tX9_full_107 ih x1 x2 x3 x5 x6 σ h
      · have h := hO_t hc h
        refine X_aload_n 0 rfl (dk KX9_full 42 rfl) ?_
        refine Y_getR 173 fX9_143 (Nat.le_of_ble_eq_true rfl) rfl rfl (dk KX9_full 43 rfl) ?_
        refine X_bipush (dk KX9_full 44 rfl) 60 (by decide) ?_
        refine X_iload 5 rfl (dk KX9_full 45 rfl) ?_
        refine X_imul (dk KX9_full 46 rfl) ?_
        refine X_iload_n 3 rfl (dk KX9_full 47 rfl) ?_
        refine X_iadd (dk KX9_full 48 rfl) ?_
        refine Y_iald (Nat.le_of_ble_eq_true rfl) rfl (dk KX9_full 49 rfl) h (fun hi15 h => ?_)
        refine X_iload_n 2 rfl (dk KX9_full 50 rfl) ?_
        refine X_icmp_ne 107 (dk KX9_full 51 rfl) (by decide) (fun hc => ?_) (fun hc => ?_)
        · have h := hO_f hc h
          exact tX9_full_107 ih x1 x2 x3 x5 x6 σ h
        · have h := hO_t hc h
          refine X_iload 4 rfl (dk KX9_full 52 rfl) ?_
          refine X_aload_n 0 rfl (dk KX9_full 53 rfl) ?_
          refine Y_getR 163 fX9_110 (Nat.le_of_ble_eq_true rfl) rfl rfl (dk KX9_full 54 rfl) ?_
          refine X_iload 5 rfl (dk KX9_full 55 rfl) ?_
          refine Y_iald (Nat.le_of_ble_eq_true rfl) rfl (dk KX9_full 56 rfl) h (fun hi16 h => ?_)
          refine X_iadd (dk KX9_full 57 rfl) ?_
          refine X_istore [(5, .int (x5 + (gi σ 163 (x6 : Int32).toNatClampNeg))), (0, .ref 132), (1, .int x1), (2, .int x2), (3, .int x3), (6, .int x6)] (dk KX9_full 58 rfl) (by decide) rfl ?_
          refine X_sub [(0, .ref 132), (1, .int x1), (2, .int x2), (3, .int x3), (5, .int (x5 + (gi σ 163 (x6 : Int32).toNatClampNeg))), (6, .int x6)] [1, 2, 3, 4, 0, 5] rfl ?_
          exact tX9_full_107 ih x1 x2 x3 (x5 + (gi σ 163 (x6 : Int32).toNatClampNeg)) x6 σ h
def fX9_full (a1 : Int32) (a2 : Int32) (a3 : Int32) (a4 : Int32) (σ : PS) : Option (Int32 × PS) := (fX9_isInn a1 σ).bind (fun qy1 => (fun (y1 : Int32) (σ2 : PS) => (if y1 = 0 then some ((-1000000), σ2) else (if a2 < 0 then some ((-1000000), σ2) else gd (inb a1 8) ((if (gi σ2 159 (a1 : Int32).toNatClampNeg) ≤ a2 then some ((-1000000), σ2) else (fX9_isDay a3 σ2).bind (fun qy5 => (fun (y5 : Int32) (σ6 : PS) => (if y5 = 0 then some ((-1000000), σ6) else (fX9_isKnown a4 σ6).bind (fun qy8 => (fun (y8 : Int32) (σ9 : PS) => (if y8 = 0 then some ((-1000000), σ9) else (fX9_goes a4 σ9).bind (fun σ12 => fX9_full_54 FU a1 a2 a3 0 0 σ12))) qy8.1 qy8.2))) qy5.1 qy5.2)))))) qy1.1 qy1.2)
set_option maxRecDepth 100000 in
set_option maxHeartbeats 4000000 in
theorem okX9_full (a1 : Int32) (a2 : Int32) (a3 : Int32) (a4 : Int32) (σ : PS) (P : Int32 × PS → Prop) (h : hO (fX9_full a1 a2 a3 a4 σ) P) : CON g mX9_full 5 0 0 [.ref 132, .int a1, .int a2, .int a3, .int a4] (HP σ) (pI P) := by
  refine CON.of (by decide) (by simp [lg_sl, Value.category]) ?_
  show X g _ _ _ _ _ 0 [(0, .ref 132), (1, .int a1), (2, .int a2), (3, .int a3), (4, .int a4)] [] _
  unfold fX9_full at h
  refine X_aload_n 0 rfl (dk KX9_full 0 rfl) ?_
  refine X_iload_n 1 rfl (dk KX9_full 1 rfl) ?_
  refine Y_callVI wX9_318 (Nat.le_of_ble_eq_true rfl) rfl [.int a1] [] rfl rfl (Nat.le_of_ble_eq_true rfl) (Nat.le_of_ble_eq_true rfl) (dk KX9_full 2 rfl) (fun Pc h => okX9_isInn _ _ Pc h) h (fun y1 σ2 e3 h => ?_)
  try dsimp only at h
  refine X_if_eq 38 (dk KX9_full 3 rfl) (by decide) (fun hc => ?_) (fun hc => ?_)
  · have h := hO_t hc h
    refine Y_ldcw cstX9_369 (dk KX9_full 19 rfl) ?_
    exact Y_iret (dk KX9_full 20 rfl) rfl h
  · have h := hO_f hc h
    refine X_iload_n 2 rfl (dk KX9_full 4 rfl) ?_
    refine X_if_lt 38 (dk KX9_full 5 rfl) (by decide) (fun hc => ?_) (fun hc => ?_)
    · have h := hO_t hc h
      refine Y_ldcw cstX9_369 (dk KX9_full 19 rfl) ?_
      exact Y_iret (dk KX9_full 20 rfl) rfl h
    · have h := hO_f hc h
      refine X_iload_n 2 rfl (dk KX9_full 6 rfl) ?_
      refine X_aload_n 0 rfl (dk KX9_full 7 rfl) ?_
      refine Y_getR 159 fX9_98 (Nat.le_of_ble_eq_true rfl) rfl rfl (dk KX9_full 8 rfl) ?_
      refine X_iload_n 1 rfl (dk KX9_full 9 rfl) ?_
      refine Y_iald (Nat.le_of_ble_eq_true rfl) rfl (dk KX9_full 10 rfl) h (fun hi4 h => ?_)
      refine X_icmp_ge 38 (dk KX9_full 11 rfl) (by decide) (fun hc => ?_) (fun hc => ?_)
      · have h := hO_t hc h
        refine Y_ldcw cstX9_369 (dk KX9_full 19 rfl) ?_
        exact Y_iret (dk KX9_full 20 rfl) rfl h
      · have h := hO_f hc h
        refine X_iload_n 3 rfl (dk KX9_full 12 rfl) ?_
        refine Y_callSI wX9_321 [.int a3] [] rfl rfl (Nat.le_of_ble_eq_true rfl) (Nat.le_of_ble_eq_true rfl) (dk KX9_full 13 rfl) (fun Pc h => okX9_isDay _ _ Pc h) h (fun y5 σ6 e7 h => ?_)
        try dsimp only at h
        refine X_if_eq 38 (dk KX9_full 14 rfl) (by decide) (fun hc => ?_) (fun hc => ?_)
        · have h := hO_t hc h
          refine Y_ldcw cstX9_369 (dk KX9_full 19 rfl) ?_
          exact Y_iret (dk KX9_full 20 rfl) rfl h
        · have h := hO_f hc h
          refine X_aload_n 0 rfl (dk KX9_full 15 rfl) ?_
          refine X_iload 4 rfl (dk KX9_full 16 rfl) ?_
          refine Y_callVI wX9_366 (Nat.le_of_ble_eq_true rfl) rfl [.int a4] [] rfl rfl (Nat.le_of_ble_eq_true rfl) (Nat.le_of_ble_eq_true rfl) (dk KX9_full 17 rfl) (fun Pc h => okX9_isKnown _ _ Pc h) h (fun y8 σ9 e10 h => ?_)
          try dsimp only at h
          refine X_if_ne 42 (dk KX9_full 18 rfl) (by decide) (fun hc => ?_) (fun hc => ?_)
          · have h := hO_f hc h
            refine X_aload_n 0 rfl (dk KX9_full 21 rfl) ?_
            refine X_iload 4 rfl (dk KX9_full 22 rfl) ?_
            refine Y_callVV wX9_370 (Nat.le_of_ble_eq_true rfl) rfl [.int a4] [] rfl rfl (Nat.le_of_ble_eq_true rfl) (Nat.le_of_ble_eq_true rfl) (dk KX9_full 23 rfl) (fun Pc h => okX9_goes _ _ Pc h) h (fun σ12 e13 h => ?_)
            try dsimp only at h
            refine X_iconst (dk KX9_full 24 rfl) 0 (by decide) ?_
            refine X_istore [(5, .int 0), (0, .ref 132), (1, .int a1), (2, .int a2), (3, .int a3), (4, .int a4)] (dk KX9_full 25 rfl) (by decide) rfl ?_
            refine X_iconst (dk KX9_full 26 rfl) 0 (by decide) ?_
            refine X_istore [(6, .int 0), (5, .int 0), (0, .ref 132), (1, .int a1), (2, .int a2), (3, .int a3), (4, .int a4)] (dk KX9_full 27 rfl) (by decide) rfl ?_
            refine X_sub [(0, .ref 132), (1, .int a1), (2, .int a2), (3, .int a3), (5, .int 0), (6, .int 0)] [2, 3, 4, 5, 1, 0] rfl ?_
            exact tX9_full_54 FU a1 a2 a3 0 0 σ12 h
          · have h := hO_t hc h
            refine Y_ldcw cstX9_369 (dk KX9_full 19 rfl) ?_
            exact Y_iret (dk KX9_full 20 rfl) rfl h

def fX9_comes_25 : Nat → Int32 → Int32 → PS → Option (Int32 × PS)
  | 0, _, _, _ => none
  | n + 1, x1, x3, σ => (if 60 ≤ x3 then some ((-1), σ) else gd (inb ((60 * x1) + x3) 360) (gd (inb x1 6) ((if (gi σ 172 (((60 * x1) + x3) : Int32).toNatClampNeg) = (gi σ 165 (x1 : Int32).toNatClampNeg) then some (x3, σ) else fX9_comes_25 n x1 (x3 + 1) σ))))
set_option maxRecDepth 100000 in
set_option maxHeartbeats 4000000 in
theorem tX9_comes_25 {P : Int32 × PS → Prop} : ∀ (n : Nat) (x1 : Int32) (x3 : Int32) (σ : PS), hO (fX9_comes_25 n x1 x3 σ) P → X g mX9_comes 5 0 0 (pI P) 25 [(0, .ref 132), (1, .int x1), (3, .int x3)] [] (HP σ) := by
  intro n
  induction n with
  | zero =>
    intro x1 x3 σ h
    rw [fX9_comes_25] at h
    exact (hO_none h).elim
  | succ n ih =>
    intro x1 x3 σ h
    rw [fX9_comes_25] at h
    refine X_iload_n 2 rfl (dk KX9_comes 15 rfl) ?_
    refine X_bipush (dk KX9_comes 16 rfl) 60 (by decide) ?_
    refine X_icmp_ge 59 (dk KX9_comes 17 rfl) (by decide) (fun hc => ?_) (fun hc => ?_)
    · have h := hO_t hc h
      refine X_iconst (dk KX9_comes 35 rfl) (-1) (by decide) ?_
      exact Y_iret (dk KX9_comes 36 rfl) rfl h
    · have h := hO_f hc h
      refine X_aload_n 0 rfl (dk KX9_comes 18 rfl) ?_
      refine Y_getR 172 fX9_140 (Nat.le_of_ble_eq_true rfl) rfl rfl (dk KX9_comes 19 rfl) ?_
      refine X_bipush (dk KX9_comes 20 rfl) 60 (by decide) ?_
      refine X_iload_n 1 rfl (dk KX9_comes 21 rfl) ?_
      refine X_imul (dk KX9_comes 22 rfl) ?_
      refine X_iload_n 2 rfl (dk KX9_comes 23 rfl) ?_
      refine X_iadd (dk KX9_comes 24 rfl) ?_
      refine Y_iald (Nat.le_of_ble_eq_true rfl) rfl (dk KX9_comes 25 rfl) h (fun hi10 h => ?_)
      refine X_aload_n 0 rfl (dk KX9_comes 26 rfl) ?_
      refine Y_getR 165 fX9_116 (Nat.le_of_ble_eq_true rfl) rfl rfl (dk KX9_comes 27 rfl) ?_
      refine X_iload_n 1 rfl (dk KX9_comes 28 rfl) ?_
      refine Y_iald (Nat.le_of_ble_eq_true rfl) rfl (dk KX9_comes 29 rfl) h (fun hi11 h => ?_)
      refine X_icmp_ne 53 (dk KX9_comes 30 rfl) (by decide) (fun hc => ?_) (fun hc => ?_)
      · have h := hO_f hc h
        refine X_iinc 2 1 [(3, .int (x3 + 1)), (0, .ref 132), (1, .int x1)] (dk KX9_comes 33 rfl) rfl (by decide) (by decide) rfl ?_
        refine X_goto 25 (dk KX9_comes 34 rfl) (by decide) ?_
        refine X_sub [(0, .ref 132), (1, .int x1), (3, .int (x3 + 1))] [1, 2, 0] rfl ?_
        exact ih x1 (x3 + 1) σ h
      · have h := hO_t hc h
        refine X_iload_n 2 rfl (dk KX9_comes 31 rfl) ?_
        exact Y_iret (dk KX9_comes 32 rfl) rfl h
def fX9_comes (a1 : Int32) (a2 : Int32) (σ : PS) : Option (Int32 × PS) := (fX9_isCaravan a1 σ).bind (fun qy1 => (fun (y1 : Int32) (σ2 : PS) => (if y1 = 0 then some ((-1), σ2) else (fX9_isKnown a2 σ2).bind (fun qy4 => (fun (y4 : Int32) (σ5 : PS) => (if y4 = 0 then some ((-1), σ5) else (fX9_goes a2 σ5).bind (fun σ8 => fX9_comes_25 FU a1 0 σ8))) qy4.1 qy4.2))) qy1.1 qy1.2)
set_option maxRecDepth 100000 in
set_option maxHeartbeats 4000000 in
theorem okX9_comes (a1 : Int32) (a2 : Int32) (σ : PS) (P : Int32 × PS → Prop) (h : hO (fX9_comes a1 a2 σ) P) : CON g mX9_comes 5 0 0 [.ref 132, .int a1, .int a2] (HP σ) (pI P) := by
  refine CON.of (by decide) (by simp [lg_sl, Value.category]) ?_
  show X g _ _ _ _ _ 0 [(0, .ref 132), (1, .int a1), (2, .int a2)] [] _
  unfold fX9_comes at h
  refine X_aload_n 0 rfl (dk KX9_comes 0 rfl) ?_
  refine X_iload_n 1 rfl (dk KX9_comes 1 rfl) ?_
  refine Y_callVI wX9_327 (Nat.le_of_ble_eq_true rfl) rfl [.int a1] [] rfl rfl (Nat.le_of_ble_eq_true rfl) (Nat.le_of_ble_eq_true rfl) (dk KX9_comes 2 rfl) (fun Pc h => okX9_isCaravan _ _ Pc h) h (fun y1 σ2 e3 h => ?_)
  try dsimp only at h
  refine X_if_eq 16 (dk KX9_comes 3 rfl) (by decide) (fun hc => ?_) (fun hc => ?_)
  · have h := hO_t hc h
    refine X_iconst (dk KX9_comes 8 rfl) (-1) (by decide) ?_
    exact Y_iret (dk KX9_comes 9 rfl) rfl h
  · have h := hO_f hc h
    refine X_aload_n 0 rfl (dk KX9_comes 4 rfl) ?_
    refine X_iload_n 2 rfl (dk KX9_comes 5 rfl) ?_
    refine Y_callVI wX9_366 (Nat.le_of_ble_eq_true rfl) rfl [.int a2] [] rfl rfl (Nat.le_of_ble_eq_true rfl) (Nat.le_of_ble_eq_true rfl) (dk KX9_comes 6 rfl) (fun Pc h => okX9_isKnown _ _ Pc h) h (fun y4 σ5 e6 h => ?_)
    try dsimp only at h
    refine X_if_ne 18 (dk KX9_comes 7 rfl) (by decide) (fun hc => ?_) (fun hc => ?_)
    · have h := hO_f hc h
      refine X_aload_n 0 rfl (dk KX9_comes 10 rfl) ?_
      refine X_iload_n 2 rfl (dk KX9_comes 11 rfl) ?_
      refine Y_callVV wX9_370 (Nat.le_of_ble_eq_true rfl) rfl [.int a2] [] rfl rfl (Nat.le_of_ble_eq_true rfl) (Nat.le_of_ble_eq_true rfl) (dk KX9_comes 12 rfl) (fun Pc h => okX9_goes _ _ Pc h) h (fun σ8 e9 h => ?_)
      try dsimp only at h
      refine X_iconst (dk KX9_comes 13 rfl) 0 (by decide) ?_
      refine X_istore_n [(3, .int 0), (0, .ref 132), (1, .int a1), (2, .int a2)] (dk KX9_comes 14 rfl) (by decide) rfl ?_
      refine X_sub [(0, .ref 132), (1, .int a1), (3, .int 0)] [1, 2, 0] rfl ?_
      exact tX9_comes_25 FU a1 0 σ8 h
    · have h := hO_t hc h
      refine X_iconst (dk KX9_comes 8 rfl) (-1) (by decide) ?_
      exact Y_iret (dk KX9_comes 9 rfl) rfl h

def fX9_barred (a1 : Int32) (a2 : Int32) (a3 : Int32) (σ : PS) : Option (Int32 × PS) := (fX9_isCaravan a1 σ).bind (fun qy1 => (fun (y1 : Int32) (σ2 : PS) => (if y1 = 0 then some ((-1), σ2) else (fX9_isDay a2 σ2).bind (fun qy4 => (fun (y4 : Int32) (σ5 : PS) => (if y4 = 0 then some ((-1), σ5) else (fX9_isKnown a3 σ5).bind (fun qy7 => (fun (y7 : Int32) (σ8 : PS) => (if y7 = 0 then some ((-1), σ8) else (fX9_goes a3 σ8).bind (fun σ11 => gd (inb ((60 * a1) + a2) 360) (some ((gi σ11 178 (((60 * a1) + a2) : Int32).toNatClampNeg), σ11))))) qy7.1 qy7.2))) qy4.1 qy4.2))) qy1.1 qy1.2)
set_option maxRecDepth 100000 in
set_option maxHeartbeats 4000000 in
theorem okX9_barred (a1 : Int32) (a2 : Int32) (a3 : Int32) (σ : PS) (P : Int32 × PS → Prop) (h : hO (fX9_barred a1 a2 a3 σ) P) : CON g mX9_barred 5 0 0 [.ref 132, .int a1, .int a2, .int a3] (HP σ) (pI P) := by
  refine CON.of (by decide) (by simp [lg_sl, Value.category]) ?_
  show X g _ _ _ _ _ 0 [(0, .ref 132), (1, .int a1), (2, .int a2), (3, .int a3)] [] _
  unfold fX9_barred at h
  refine X_aload_n 0 rfl (dk KX9_barred 0 rfl) ?_
  refine X_iload_n 1 rfl (dk KX9_barred 1 rfl) ?_
  refine Y_callVI wX9_327 (Nat.le_of_ble_eq_true rfl) rfl [.int a1] [] rfl rfl (Nat.le_of_ble_eq_true rfl) (Nat.le_of_ble_eq_true rfl) (dk KX9_barred 2 rfl) (fun Pc h => okX9_isCaravan _ _ Pc h) h (fun y1 σ2 e3 h => ?_)
  try dsimp only at h
  refine X_if_eq 23 (dk KX9_barred 3 rfl) (by decide) (fun hc => ?_) (fun hc => ?_)
  · have h := hO_t hc h
    refine X_iconst (dk KX9_barred 11 rfl) (-1) (by decide) ?_
    exact Y_iret (dk KX9_barred 12 rfl) rfl h
  · have h := hO_f hc h
    refine X_iload_n 2 rfl (dk KX9_barred 4 rfl) ?_
    refine Y_callSI wX9_321 [.int a2] [] rfl rfl (Nat.le_of_ble_eq_true rfl) (Nat.le_of_ble_eq_true rfl) (dk KX9_barred 5 rfl) (fun Pc h => okX9_isDay _ _ Pc h) h (fun y4 σ5 e6 h => ?_)
    try dsimp only at h
    refine X_if_eq 23 (dk KX9_barred 6 rfl) (by decide) (fun hc => ?_) (fun hc => ?_)
    · have h := hO_t hc h
      refine X_iconst (dk KX9_barred 11 rfl) (-1) (by decide) ?_
      exact Y_iret (dk KX9_barred 12 rfl) rfl h
    · have h := hO_f hc h
      refine X_aload_n 0 rfl (dk KX9_barred 7 rfl) ?_
      refine X_iload_n 3 rfl (dk KX9_barred 8 rfl) ?_
      refine Y_callVI wX9_366 (Nat.le_of_ble_eq_true rfl) rfl [.int a3] [] rfl rfl (Nat.le_of_ble_eq_true rfl) (Nat.le_of_ble_eq_true rfl) (dk KX9_barred 9 rfl) (fun Pc h => okX9_isKnown _ _ Pc h) h (fun y7 σ8 e9 h => ?_)
      try dsimp only at h
      refine X_if_ne 25 (dk KX9_barred 10 rfl) (by decide) (fun hc => ?_) (fun hc => ?_)
      · have h := hO_f hc h
        refine X_aload_n 0 rfl (dk KX9_barred 13 rfl) ?_
        refine X_iload_n 3 rfl (dk KX9_barred 14 rfl) ?_
        refine Y_callVV wX9_370 (Nat.le_of_ble_eq_true rfl) rfl [.int a3] [] rfl rfl (Nat.le_of_ble_eq_true rfl) (Nat.le_of_ble_eq_true rfl) (dk KX9_barred 15 rfl) (fun Pc h => okX9_goes _ _ Pc h) h (fun σ11 e12 h => ?_)
        try dsimp only at h
        refine X_aload_n 0 rfl (dk KX9_barred 16 rfl) ?_
        refine Y_getR 178 fX9_158 (Nat.le_of_ble_eq_true rfl) rfl rfl (dk KX9_barred 17 rfl) ?_
        refine X_bipush (dk KX9_barred 18 rfl) 60 (by decide) ?_
        refine X_iload_n 1 rfl (dk KX9_barred 19 rfl) ?_
        refine X_imul (dk KX9_barred 20 rfl) ?_
        refine X_iload_n 2 rfl (dk KX9_barred 21 rfl) ?_
        refine X_iadd (dk KX9_barred 22 rfl) ?_
        refine Y_iald (Nat.le_of_ble_eq_true rfl) rfl (dk KX9_barred 23 rfl) h (fun hi13 h => ?_)
        exact Y_iret (dk KX9_barred 24 rfl) rfl h
      · have h := hO_t hc h
        refine X_iconst (dk KX9_barred 11 rfl) (-1) (by decide) ?_
        exact Y_iret (dk KX9_barred 12 rfl) rfl h

def fX9_could_352 (r229 : Int32 → Int32 → Int32 → Int32 → PS → Option (Int32 × PS)) (x3 : Int32) (x5 : Int32) (x6 : Int32) (x7 : Int32) (σ : PS) : Option (Int32 × PS) := r229 x3 x5 x6 (x7 + 1) σ
set_option maxRecDepth 100000 in
set_option maxHeartbeats 4000000 in
theorem tX9_could_352 {P : Int32 × PS → Prop} {r229 : Int32 → Int32 → Int32 → Int32 → PS → Option (Int32 × PS)} (hr_229 : ∀ (x3 : Int32) (x5 : Int32) (x6 : Int32) (x7 : Int32) (σ : PS), hO (r229 x3 x5 x6 x7 σ) P → X g mX9_could 5 0 0 (pI P) 229 [(0, .ref 132), (3, .int x3), (5, .int x5), (6, .int x6), (7, .int x7)] [] (HP σ)) (x3 : Int32) (x5 : Int32) (x6 : Int32) (x7 : Int32) (σ : PS) (h : hO (fX9_could_352 r229 x3 x5 x6 x7 σ) P) : X g mX9_could 5 0 0 (pI P) 352 [(0, .ref 132), (3, .int x3), (5, .int x5), (6, .int x6), (7, .int x7)] [] (HP σ) := by
  unfold fX9_could_352 at h
  refine X_iinc 4 1 [(7, .int (x7 + 1)), (0, .ref 132), (3, .int x3), (5, .int x5), (6, .int x6)] (dk KX9_could 195 rfl) rfl (by decide) (by decide) rfl ?_
  refine X_goto 229 (dk KX9_could 196 rfl) (by decide) ?_
  refine X_sub [(0, .ref 132), (3, .int x3), (5, .int x5), (6, .int x6), (7, .int (x7 + 1))] [1, 2, 3, 4, 0] rfl ?_
  exact hr_229 x3 x5 x6 (x7 + 1) σ h
def fX9_could_346 (r229 : Int32 → Int32 → Int32 → Int32 → PS → Option (Int32 × PS)) (r263 : Int32 → Int32 → Int32 → Int32 → Int32 → PS → Option (Int32 × PS)) (x3 : Int32) (x5 : Int32) (x6 : Int32) (x7 : Int32) (x8 : Int32) (σ : PS) : Option (Int32 × PS) := r263 x3 x5 x6 x7 (x8 + 1) σ
set_option maxRecDepth 100000 in
set_option maxHeartbeats 4000000 in
theorem tX9_could_346 {P : Int32 × PS → Prop} {r229 : Int32 → Int32 → Int32 → Int32 → PS → Option (Int32 × PS)} (hr_229 : ∀ (x3 : Int32) (x5 : Int32) (x6 : Int32) (x7 : Int32) (σ : PS), hO (r229 x3 x5 x6 x7 σ) P → X g mX9_could 5 0 0 (pI P) 229 [(0, .ref 132), (3, .int x3), (5, .int x5), (6, .int x6), (7, .int x7)] [] (HP σ)) {r263 : Int32 → Int32 → Int32 → Int32 → Int32 → PS → Option (Int32 × PS)} (hr_263 : ∀ (x3 : Int32) (x5 : Int32) (x6 : Int32) (x7 : Int32) (x8 : Int32) (σ : PS), hO (r263 x3 x5 x6 x7 x8 σ) P → X g mX9_could 5 0 0 (pI P) 263 [(0, .ref 132), (3, .int x3), (5, .int x5), (6, .int x6), (7, .int x7), (8, .int x8)] [] (HP σ)) (x3 : Int32) (x5 : Int32) (x6 : Int32) (x7 : Int32) (x8 : Int32) (σ : PS) (h : hO (fX9_could_346 r229 r263 x3 x5 x6 x7 x8 σ) P) : X g mX9_could 5 0 0 (pI P) 346 [(0, .ref 132), (3, .int x3), (5, .int x5), (6, .int x6), (7, .int x7), (8, .int x8)] [] (HP σ) := by
  unfold fX9_could_346 at h
  refine X_iinc 5 1 [(8, .int (x8 + 1)), (0, .ref 132), (3, .int x3), (5, .int x5), (6, .int x6), (7, .int x7)] (dk KX9_could 193 rfl) rfl (by decide) (by decide) rfl ?_
  refine X_goto 263 (dk KX9_could 194 rfl) (by decide) ?_
  refine X_sub [(0, .ref 132), (3, .int x3), (5, .int x5), (6, .int x6), (7, .int x7), (8, .int (x8 + 1))] [1, 2, 3, 4, 5, 0] rfl ?_
  exact hr_263 x3 x5 x6 x7 (x8 + 1) σ h
def fX9_could_263 (r229 : Int32 → Int32 → Int32 → Int32 → PS → Option (Int32 × PS)) : Nat → Int32 → Int32 → Int32 → Int32 → Int32 → PS → Option (Int32 × PS)
  | 0, _, _, _, _, _, _ => none
  | n + 1, x3, x5, x6, x7, x8, σ => (if (gi σ 132 44) ≤ x8 then fX9_could_352 r229 x3 x5 x6 x7 σ else (if x8 = x5 then fX9_could_346 r229 (fX9_could_263 r229 n) x3 x5 x6 x7 x8 σ else gd (inb ((60 * x8) + x7) 360) (gd (inb ((60 * x5) + x7) 360) ((if (gi σ 172 (((60 * x8) + x7) : Int32).toNatClampNeg) = (gi σ 172 (((60 * x5) + x7) : Int32).toNatClampNeg) then gd (inb ((60 * x8) + x7) 360) (gd (inb ((60 * x5) + x7) 360) ((if (gi σ 173 (((60 * x8) + x7) : Int32).toNatClampNeg) = (gi σ 173 (((60 * x5) + x7) : Int32).toNatClampNeg) then fX9_could_346 r229 (fX9_could_263 r229 n) x3 x5 (x6 ||| (1 <<< (x8 &&& 31))) x7 x8 σ else fX9_could_346 r229 (fX9_could_263 r229 n) x3 x5 x6 x7 x8 σ))) else fX9_could_346 r229 (fX9_could_263 r229 n) x3 x5 x6 x7 x8 σ)))))
set_option maxRecDepth 100000 in
set_option maxHeartbeats 4000000 in
theorem tX9_could_263 {P : Int32 × PS → Prop} {r229 : Int32 → Int32 → Int32 → Int32 → PS → Option (Int32 × PS)} (hr_229 : ∀ (x3 : Int32) (x5 : Int32) (x6 : Int32) (x7 : Int32) (σ : PS), hO (r229 x3 x5 x6 x7 σ) P → X g mX9_could 5 0 0 (pI P) 229 [(0, .ref 132), (3, .int x3), (5, .int x5), (6, .int x6), (7, .int x7)] [] (HP σ)) : ∀ (n : Nat) (x3 : Int32) (x5 : Int32) (x6 : Int32) (x7 : Int32) (x8 : Int32) (σ : PS), hO (fX9_could_263 r229 n x3 x5 x6 x7 x8 σ) P → X g mX9_could 5 0 0 (pI P) 263 [(0, .ref 132), (3, .int x3), (5, .int x5), (6, .int x6), (7, .int x7), (8, .int x8)] [] (HP σ) := by
  intro n
  induction n with
  | zero =>
    intro x3 x5 x6 x7 x8 σ h
    rw [fX9_could_263] at h
    exact (hO_none h).elim
  | succ n ih =>
    intro x3 x5 x6 x7 x8 σ h
    rw [fX9_could_263] at h
    refine X_iload 5 rfl (dk KX9_could 146 rfl) ?_
    refine X_aload_n 0 rfl (dk KX9_could 147 rfl) ?_
    refine Y_getI fX9_312 (Nat.le_of_ble_eq_true rfl) rfl (dk KX9_could 148 rfl) ?_
    refine X_icmp_ge 352 (dk KX9_could 149 rfl) (by decide) (fun hc => ?_) (fun hc => ?_)
    · have h := hO_t hc h
      refine X_sub [(0, .ref 132), (3, .int x3), (5, .int x5), (6, .int x6), (7, .int x7)] [0, 1, 2, 3, 4] rfl ?_
      exact tX9_could_352 hr_229 x3 x5 x6 x7 σ h
    · have h := hO_f hc h
      refine X_iload 5 rfl (dk KX9_could 150 rfl) ?_
      refine X_iload 2 rfl (dk KX9_could 151 rfl) ?_
      refine X_icmp_eq 346 (dk KX9_could 152 rfl) (by decide) (fun hc => ?_) (fun hc => ?_)
      · have h := hO_t hc h
        exact tX9_could_346 hr_229 ih x3 x5 x6 x7 x8 σ h
      · have h := hO_f hc h
        refine X_aload_n 0 rfl (dk KX9_could 153 rfl) ?_
        refine Y_getR 172 fX9_140 (Nat.le_of_ble_eq_true rfl) rfl rfl (dk KX9_could 154 rfl) ?_
        refine X_bipush (dk KX9_could 155 rfl) 60 (by decide) ?_
        refine X_iload 5 rfl (dk KX9_could 156 rfl) ?_
        refine X_imul (dk KX9_could 157 rfl) ?_
        refine X_iload 4 rfl (dk KX9_could 158 rfl) ?_
        refine X_iadd (dk KX9_could 159 rfl) ?_
        refine Y_iald (Nat.le_of_ble_eq_true rfl) rfl (dk KX9_could 160 rfl) h (fun hi23 h => ?_)
        refine X_aload_n 0 rfl (dk KX9_could 161 rfl) ?_
        refine Y_getR 172 fX9_140 (Nat.le_of_ble_eq_true rfl) rfl rfl (dk KX9_could 162 rfl) ?_
        refine X_bipush (dk KX9_could 163 rfl) 60 (by decide) ?_
        refine X_iload 2 rfl (dk KX9_could 164 rfl) ?_
        refine X_imul (dk KX9_could 165 rfl) ?_
        refine X_iload 4 rfl (dk KX9_could 166 rfl) ?_
        refine X_iadd (dk KX9_could 167 rfl) ?_
        refine Y_iald (Nat.le_of_ble_eq_true rfl) rfl (dk KX9_could 168 rfl) h (fun hi24 h => ?_)
        refine X_icmp_ne 346 (dk KX9_could 169 rfl) (by decide) (fun hc => ?_) (fun hc => ?_)
        · have h := hO_f hc h
          exact tX9_could_346 hr_229 ih x3 x5 x6 x7 x8 σ h
        · have h := hO_t hc h
          refine X_aload_n 0 rfl (dk KX9_could 170 rfl) ?_
          refine Y_getR 173 fX9_143 (Nat.le_of_ble_eq_true rfl) rfl rfl (dk KX9_could 171 rfl) ?_
          refine X_bipush (dk KX9_could 172 rfl) 60 (by decide) ?_
          refine X_iload 5 rfl (dk KX9_could 173 rfl) ?_
          refine X_imul (dk KX9_could 174 rfl) ?_
          refine X_iload 4 rfl (dk KX9_could 175 rfl) ?_
          refine X_iadd (dk KX9_could 176 rfl) ?_
          refine Y_iald (Nat.le_of_ble_eq_true rfl) rfl (dk KX9_could 177 rfl) h (fun hi25 h => ?_)
          refine X_aload_n 0 rfl (dk KX9_could 178 rfl) ?_
          refine Y_getR 173 fX9_143 (Nat.le_of_ble_eq_true rfl) rfl rfl (dk KX9_could 179 rfl) ?_
          refine X_bipush (dk KX9_could 180 rfl) 60 (by decide) ?_
          refine X_iload 2 rfl (dk KX9_could 181 rfl) ?_
          refine X_imul (dk KX9_could 182 rfl) ?_
          refine X_iload 4 rfl (dk KX9_could 183 rfl) ?_
          refine X_iadd (dk KX9_could 184 rfl) ?_
          refine Y_iald (Nat.le_of_ble_eq_true rfl) rfl (dk KX9_could 185 rfl) h (fun hi26 h => ?_)
          refine X_icmp_ne 346 (dk KX9_could 186 rfl) (by decide) (fun hc => ?_) (fun hc => ?_)
          · have h := hO_f hc h
            exact tX9_could_346 hr_229 ih x3 x5 x6 x7 x8 σ h
          · have h := hO_t hc h
            refine X_iload 3 rfl (dk KX9_could 187 rfl) ?_
            refine X_iconst (dk KX9_could 188 rfl) 1 (by decide) ?_
            refine X_iload 5 rfl (dk KX9_could 189 rfl) ?_
            refine X_ishl (dk KX9_could 190 rfl) ?_
            refine X_ior (dk KX9_could 191 rfl) ?_
            refine X_istore [(6, .int (x6 ||| (1 <<< (x8 &&& 31)))), (0, .ref 132), (3, .int x3), (5, .int x5), (7, .int x7), (8, .int x8)] (dk KX9_could 192 rfl) (by decide) rfl ?_
            refine X_sub [(0, .ref 132), (3, .int x3), (5, .int x5), (6, .int (x6 ||| (1 <<< (x8 &&& 31)))), (7, .int x7), (8, .int x8)] [1, 2, 3, 0, 4, 5] rfl ?_
            exact tX9_could_346 hr_229 ih x3 x5 (x6 ||| (1 <<< (x8 &&& 31))) x7 x8 σ h
def fX9_could_229 : Nat → Int32 → Int32 → Int32 → Int32 → PS → Option (Int32 × PS)
  | 0, _, _, _, _, _ => none
  | n + 1, x3, x5, x6, x7, σ => gd (inb x3 300) ((if (gi σ 171 (x3 : Int32).toNatClampNeg) < x7 then some (x6, σ) else gd (inb ((60 * x5) + x7) 360) ((if (gi σ 172 (((60 * x5) + x7) : Int32).toNatClampNeg) = (-1) then fX9_could_352 (fX9_could_229 n) x3 x5 x6 x7 σ else fX9_could_263 (fX9_could_229 n) FU x3 x5 x6 x7 0 σ))))
set_option maxRecDepth 100000 in
set_option maxHeartbeats 4000000 in
theorem tX9_could_229 {P : Int32 × PS → Prop} : ∀ (n : Nat) (x3 : Int32) (x5 : Int32) (x6 : Int32) (x7 : Int32) (σ : PS), hO (fX9_could_229 n x3 x5 x6 x7 σ) P → X g mX9_could 5 0 0 (pI P) 229 [(0, .ref 132), (3, .int x3), (5, .int x5), (6, .int x6), (7, .int x7)] [] (HP σ) := by
  intro n
  induction n with
  | zero =>
    intro x3 x5 x6 x7 σ h
    rw [fX9_could_229] at h
    exact (hO_none h).elim
  | succ n ih =>
    intro x3 x5 x6 x7 σ h
    rw [fX9_could_229] at h
    refine X_iload 4 rfl (dk KX9_could 127 rfl) ?_
    refine X_aload_n 0 rfl (dk KX9_could 128 rfl) ?_
    refine Y_getR 171 fX9_134 (Nat.le_of_ble_eq_true rfl) rfl rfl (dk KX9_could 129 rfl) ?_
    refine X_iload_n 1 rfl (dk KX9_could 130 rfl) ?_
    refine Y_iald (Nat.le_of_ble_eq_true rfl) rfl (dk KX9_could 131 rfl) h (fun hi21 h => ?_)
    refine X_icmp_gt 358 (dk KX9_could 132 rfl) (by decide) (fun hc => ?_) (fun hc => ?_)
    · have h := hO_t hc h
      refine X_iload 3 rfl (dk KX9_could 197 rfl) ?_
      exact Y_iret (dk KX9_could 198 rfl) rfl h
    · have h := hO_f hc h
      refine X_aload_n 0 rfl (dk KX9_could 133 rfl) ?_
      refine Y_getR 172 fX9_140 (Nat.le_of_ble_eq_true rfl) rfl rfl (dk KX9_could 134 rfl) ?_
      refine X_bipush (dk KX9_could 135 rfl) 60 (by decide) ?_
      refine X_iload 2 rfl (dk KX9_could 136 rfl) ?_
      refine X_imul (dk KX9_could 137 rfl) ?_
      refine X_iload 4 rfl (dk KX9_could 138 rfl) ?_
      refine X_iadd (dk KX9_could 139 rfl) ?_
      refine Y_iald (Nat.le_of_ble_eq_true rfl) rfl (dk KX9_could 140 rfl) h (fun hi22 h => ?_)
      refine X_iconst (dk KX9_could 141 rfl) (-1) (by decide) ?_
      refine X_icmp_ne 260 (dk KX9_could 142 rfl) (by decide) (fun hc => ?_) (fun hc => ?_)
      · have h := hO_f hc h
        refine X_iconst (dk KX9_could 144 rfl) 0 (by decide) ?_
        refine X_istore [(8, .int 0), (0, .ref 132), (3, .int x3), (5, .int x5), (6, .int x6), (7, .int x7)] (dk KX9_could 145 rfl) (by decide) rfl ?_
        refine X_sub [(0, .ref 132), (3, .int x3), (5, .int x5), (6, .int x6), (7, .int x7), (8, .int 0)] [1, 2, 3, 4, 5, 0] rfl ?_
        exact tX9_could_263 ih FU x3 x5 x6 x7 0 σ h
      · have h := hO_t hc h
        refine X_goto 352 (dk KX9_could 143 rfl) (by decide) ?_
        exact tX9_could_352 ih x3 x5 x6 x7 σ h
def fX9_could_227 (x3 : Int32) (x5 : Int32) (x6 : Int32) (s0 : Int32) (σ : PS) : Option (Int32 × PS) := fX9_could_229 FU x3 x5 x6 s0 σ
set_option maxRecDepth 100000 in
set_option maxHeartbeats 4000000 in
theorem tX9_could_227 {P : Int32 × PS → Prop} (x3 : Int32) (x5 : Int32) (x6 : Int32) (s0 : Int32) (σ : PS) (h : hO (fX9_could_227 x3 x5 x6 s0 σ) P) : X g mX9_could 5 0 0 (pI P) 227 [(0, .ref 132), (3, .int x3), (5, .int x5), (6, .int x6)] [.int s0] (HP σ) := by
  unfold fX9_could_227 at h
  refine X_istore [(7, .int s0), (0, .ref 132), (3, .int x3), (5, .int x5), (6, .int x6)] (dk KX9_could 126 rfl) (by decide) rfl ?_
  refine X_sub [(0, .ref 132), (3, .int x3), (5, .int x5), (6, .int x6), (7, .int s0)] [1, 2, 3, 4, 0] rfl ?_
  exact tX9_could_229 FU x3 x5 x6 s0 σ h
def fX9_could_185 (r98 : Int32 → Int32 → Int32 → Int32 → Int32 → PS → Option (Int32 × PS)) (x1 : Int32) (x2 : Int32) (x3 : Int32) (x4 : Int32) (x5 : Int32) (σ : PS) : Option (Int32 × PS) := r98 x1 x2 x3 x4 (x5 + 1) σ
set_option maxRecDepth 100000 in
set_option maxHeartbeats 4000000 in
theorem tX9_could_185 {P : Int32 × PS → Prop} {r98 : Int32 → Int32 → Int32 → Int32 → Int32 → PS → Option (Int32 × PS)} (hr_98 : ∀ (x1 : Int32) (x2 : Int32) (x3 : Int32) (x4 : Int32) (x5 : Int32) (σ : PS), hO (r98 x1 x2 x3 x4 x5 σ) P → X g mX9_could 5 0 0 (pI P) 98 [(0, .ref 132), (1, .int x1), (2, .int x2), (3, .int x3), (4, .int x4), (5, .int x5)] [] (HP σ)) (x1 : Int32) (x2 : Int32) (x3 : Int32) (x4 : Int32) (x5 : Int32) (σ : PS) (h : hO (fX9_could_185 r98 x1 x2 x3 x4 x5 σ) P) : X g mX9_could 5 0 0 (pI P) 185 [(0, .ref 132), (1, .int x1), (2, .int x2), (3, .int x3), (4, .int x4), (5, .int x5)] [] (HP σ) := by
  unfold fX9_could_185 at h
  refine X_iinc 5 1 [(5, .int (x5 + 1)), (0, .ref 132), (1, .int x1), (2, .int x2), (3, .int x3), (4, .int x4)] (dk KX9_could 103 rfl) rfl (by decide) (by decide) rfl ?_
  refine X_goto 98 (dk KX9_could 104 rfl) (by decide) ?_
  refine X_sub [(0, .ref 132), (1, .int x1), (2, .int x2), (3, .int x3), (4, .int x4), (5, .int (x5 + 1))] [1, 2, 3, 4, 5, 0] rfl ?_
  exact hr_98 x1 x2 x3 x4 (x5 + 1) σ h
def fX9_could_164 (r98 : Int32 → Int32 → Int32 → Int32 → Int32 → PS → Option (Int32 × PS)) (x1 : Int32) (x2 : Int32) (x3 : Int32) (x4 : Int32) (x5 : Int32) (σ : PS) : Option (Int32 × PS) := gd (inb x5 300) ((if (gi σ 171 (x5 : Int32).toNatClampNeg) ≤ x4 then fX9_could_185 r98 x1 x2 x3 x4 x5 σ else gd (inb x5 300) (fX9_could_185 r98 x1 x2 x3 (gi σ 171 (x5 : Int32).toNatClampNeg) x5 σ)))
set_option maxRecDepth 100000 in
set_option maxHeartbeats 4000000 in
theorem tX9_could_164 {P : Int32 × PS → Prop} {r98 : Int32 → Int32 → Int32 → Int32 → Int32 → PS → Option (Int32 × PS)} (hr_98 : ∀ (x1 : Int32) (x2 : Int32) (x3 : Int32) (x4 : Int32) (x5 : Int32) (σ : PS), hO (r98 x1 x2 x3 x4 x5 σ) P → X g mX9_could 5 0 0 (pI P) 98 [(0, .ref 132), (1, .int x1), (2, .int x2), (3, .int x3), (4, .int x4), (5, .int x5)] [] (HP σ)) (x1 : Int32) (x2 : Int32) (x3 : Int32) (x4 : Int32) (x5 : Int32) (σ : PS) (h : hO (fX9_could_164 r98 x1 x2 x3 x4 x5 σ) P) : X g mX9_could 5 0 0 (pI P) 164 [(0, .ref 132), (1, .int x1), (2, .int x2), (3, .int x3), (4, .int x4), (5, .int x5)] [] (HP σ) := by
  unfold fX9_could_164 at h
  refine X_aload_n 0 rfl (dk KX9_could 92 rfl) ?_
  refine Y_getR 171 fX9_134 (Nat.le_of_ble_eq_true rfl) rfl rfl (dk KX9_could 93 rfl) ?_
  refine X_iload 5 rfl (dk KX9_could 94 rfl) ?_
  refine Y_iald (Nat.le_of_ble_eq_true rfl) rfl (dk KX9_could 95 rfl) h (fun hi19 h => ?_)
  refine X_iload 4 rfl (dk KX9_could 96 rfl) ?_
  refine X_icmp_le 185 (dk KX9_could 97 rfl) (by decide) (fun hc => ?_) (fun hc => ?_)
  · have h := hO_t hc h
    exact tX9_could_185 hr_98 x1 x2 x3 x4 x5 σ h
  · have h := hO_f hc h
    refine X_aload_n 0 rfl (dk KX9_could 98 rfl) ?_
    refine Y_getR 171 fX9_134 (Nat.le_of_ble_eq_true rfl) rfl rfl (dk KX9_could 99 rfl) ?_
    refine X_iload 5 rfl (dk KX9_could 100 rfl) ?_
    refine Y_iald (Nat.le_of_ble_eq_true rfl) rfl (dk KX9_could 101 rfl) h (fun hi20 h => ?_)
    refine X_istore [(4, .int (gi σ 171 (x5 : Int32).toNatClampNeg)), (0, .ref 132), (1, .int x1), (2, .int x2), (3, .int x3), (5, .int x5)] (dk KX9_could 102 rfl) (by decide) rfl ?_
    refine X_sub [(0, .ref 132), (1, .int x1), (2, .int x2), (3, .int x3), (4, .int (gi σ 171 (x5 : Int32).toNatClampNeg)), (5, .int x5)] [1, 2, 3, 4, 0, 5] rfl ?_
    exact tX9_could_185 hr_98 x1 x2 x3 (gi σ 171 (x5 : Int32).toNatClampNeg) x5 σ h
def fX9_could_98 : Nat → Int32 → Int32 → Int32 → Int32 → Int32 → PS → Option (Int32 × PS)
  | 0, _, _, _, _, _, _ => none
  | n + 1, x1, x2, x3, x4, x5, σ => (if x2 ≤ x5 then (fX9_goes x2 σ).bind (fun σ9 => gd (inb x1 60) (gd (inb x3 300) ((if x4 = (gi σ9 171 (x3 : Int32).toNatClampNeg) then fX9_could_227 x3 (gi σ9 168 (x1 : Int32).toNatClampNeg) 0 x4 σ9 else fX9_could_227 x3 (gi σ9 168 (x1 : Int32).toNatClampNeg) 0 (x4 + 1) σ9)))) else gd (inb x5 300) ((if (gi σ 169 (x5 : Int32).toNatClampNeg) = 2 then gd (inb x5 300) ((if (gi σ 170 (x5 : Int32).toNatClampNeg) = x1 then gd (inb x5 300) (gd (inb x3 300) ((if (gi σ 171 (x5 : Int32).toNatClampNeg) < (gi σ 171 (x3 : Int32).toNatClampNeg) then fX9_could_164 (fX9_could_98 n) x1 x2 x3 x4 x5 σ else gd (inb x5 300) (gd (inb x3 300) ((if (gi σ 171 (x5 : Int32).toNatClampNeg) = (gi σ 171 (x3 : Int32).toNatClampNeg) then (if x3 ≤ x5 then fX9_could_185 (fX9_could_98 n) x1 x2 x3 x4 x5 σ else fX9_could_164 (fX9_could_98 n) x1 x2 x3 x4 x5 σ) else fX9_could_185 (fX9_could_98 n) x1 x2 x3 x4 x5 σ)))))) else fX9_could_185 (fX9_could_98 n) x1 x2 x3 x4 x5 σ)) else fX9_could_185 (fX9_could_98 n) x1 x2 x3 x4 x5 σ)))
set_option maxRecDepth 100000 in
set_option maxHeartbeats 4000000 in
theorem tX9_could_98 {P : Int32 × PS → Prop} : ∀ (n : Nat) (x1 : Int32) (x2 : Int32) (x3 : Int32) (x4 : Int32) (x5 : Int32) (σ : PS), hO (fX9_could_98 n x1 x2 x3 x4 x5 σ) P → X g mX9_could 5 0 0 (pI P) 98 [(0, .ref 132), (1, .int x1), (2, .int x2), (3, .int x3), (4, .int x4), (5, .int x5)] [] (HP σ) := by
  intro n
  induction n with
  | zero =>
    intro x1 x2 x3 x4 x5 σ h
    rw [fX9_could_98] at h
    exact (hO_none h).elim
  | succ n ih =>
    intro x1 x2 x3 x4 x5 σ h
    rw [fX9_could_98] at h
    refine X_iload 5 rfl (dk KX9_could 56 rfl) ?_
    refine X_iload_n 2 rfl (dk KX9_could 57 rfl) ?_
    refine X_icmp_ge 191 (dk KX9_could 58 rfl) (by decide) (fun hc => ?_) (fun hc => ?_)
    · have h := hO_t hc h
      refine X_aload_n 0 rfl (dk KX9_could 105 rfl) ?_
      refine X_iload_n 2 rfl (dk KX9_could 106 rfl) ?_
      refine Y_callVV wX9_370 (Nat.le_of_ble_eq_true rfl) rfl [.int x2] [] rfl rfl (Nat.le_of_ble_eq_true rfl) (Nat.le_of_ble_eq_true rfl) (dk KX9_could 107 rfl) (fun Pc h => okX9_goes _ _ Pc h) h (fun σ9 e10 h => ?_)
      try dsimp only at h
      refine X_aload_n 0 rfl (dk KX9_could 108 rfl) ?_
      refine Y_getR 168 fX9_125 (Nat.le_of_ble_eq_true rfl) rfl rfl (dk KX9_could 109 rfl) ?_
      refine X_iload_n 1 rfl (dk KX9_could 110 rfl) ?_
      refine Y_iald (Nat.le_of_ble_eq_true rfl) rfl (dk KX9_could 111 rfl) h (fun hi11 h => ?_)
      refine X_istore [(5, .int (gi σ9 168 (x1 : Int32).toNatClampNeg)), (0, .ref 132), (1, .int x1), (2, .int x2), (3, .int x3), (4, .int x4)] (dk KX9_could 112 rfl) (by decide) rfl ?_
      refine X_iconst (dk KX9_could 113 rfl) 0 (by decide) ?_
      refine X_istore [(6, .int 0), (5, .int (gi σ9 168 (x1 : Int32).toNatClampNeg)), (0, .ref 132), (1, .int x1), (2, .int x2), (3, .int x3), (4, .int x4)] (dk KX9_could 114 rfl) (by decide) rfl ?_
      refine X_iload 6 rfl (dk KX9_could 115 rfl) ?_
      refine X_aload_n 2 rfl (dk KX9_could 116 rfl) ?_
      refine Y_getR 171 fX9_134 (Nat.le_of_ble_eq_true rfl) rfl rfl (dk KX9_could 117 rfl) ?_
      refine X_iload_n 5 rfl (dk KX9_could 118 rfl) ?_
      refine Y_iald (Nat.le_of_ble_eq_true rfl) rfl (dk KX9_could 119 rfl) h (fun hi12 h => ?_)
      refine X_icmp_ne 223 (dk KX9_could 120 rfl) (by decide) (fun hc => ?_) (fun hc => ?_)
      · have h := hO_f hc h
        refine X_iload 6 rfl (dk KX9_could 123 rfl) ?_
        refine X_iconst (dk KX9_could 124 rfl) 1 (by decide) ?_
        refine X_iadd (dk KX9_could 125 rfl) ?_
        refine X_sub [(0, .ref 132), (3, .int x3), (5, .int (gi σ9 168 (x1 : Int32).toNatClampNeg)), (6, .int 0)] [2, 5, 1, 0] rfl ?_
        exact tX9_could_227 x3 (gi σ9 168 (x1 : Int32).toNatClampNeg) 0 (x4 + 1) σ9 h
      · have h := hO_t hc h
        refine X_iload 6 rfl (dk KX9_could 121 rfl) ?_
        refine X_goto 227 (dk KX9_could 122 rfl) (by decide) ?_
        refine X_sub [(0, .ref 132), (3, .int x3), (5, .int (gi σ9 168 (x1 : Int32).toNatClampNeg)), (6, .int 0)] [2, 5, 1, 0] rfl ?_
        exact tX9_could_227 x3 (gi σ9 168 (x1 : Int32).toNatClampNeg) 0 x4 σ9 h
    · have h := hO_f hc h
      refine X_aload_n 0 rfl (dk KX9_could 59 rfl) ?_
      refine Y_getR 169 fX9_128 (Nat.le_of_ble_eq_true rfl) rfl rfl (dk KX9_could 60 rfl) ?_
      refine X_iload 5 rfl (dk KX9_could 61 rfl) ?_
      refine Y_iald (Nat.le_of_ble_eq_true rfl) rfl (dk KX9_could 62 rfl) h (fun hi13 h => ?_)
      refine X_iconst (dk KX9_could 63 rfl) 2 (by decide) ?_
      refine X_icmp_ne 185 (dk KX9_could 64 rfl) (by decide) (fun hc => ?_) (fun hc => ?_)
      · have h := hO_f hc h
        exact tX9_could_185 ih x1 x2 x3 x4 x5 σ h
      · have h := hO_t hc h
        refine X_aload_n 0 rfl (dk KX9_could 65 rfl) ?_
        refine Y_getR 170 fX9_131 (Nat.le_of_ble_eq_true rfl) rfl rfl (dk KX9_could 66 rfl) ?_
        refine X_iload 5 rfl (dk KX9_could 67 rfl) ?_
        refine Y_iald (Nat.le_of_ble_eq_true rfl) rfl (dk KX9_could 68 rfl) h (fun hi14 h => ?_)
        refine X_iload_n 1 rfl (dk KX9_could 69 rfl) ?_
        refine X_icmp_ne 185 (dk KX9_could 70 rfl) (by decide) (fun hc => ?_) (fun hc => ?_)
        · have h := hO_f hc h
          exact tX9_could_185 ih x1 x2 x3 x4 x5 σ h
        · have h := hO_t hc h
          refine X_aload_n 0 rfl (dk KX9_could 71 rfl) ?_
          refine Y_getR 171 fX9_134 (Nat.le_of_ble_eq_true rfl) rfl rfl (dk KX9_could 72 rfl) ?_
          refine X_iload 5 rfl (dk KX9_could 73 rfl) ?_
          refine Y_iald (Nat.le_of_ble_eq_true rfl) rfl (dk KX9_could 74 rfl) h (fun hi15 h => ?_)
          refine X_aload_n 0 rfl (dk KX9_could 75 rfl) ?_
          refine Y_getR 171 fX9_134 (Nat.le_of_ble_eq_true rfl) rfl rfl (dk KX9_could 76 rfl) ?_
          refine X_iload_n 3 rfl (dk KX9_could 77 rfl) ?_
          refine Y_iald (Nat.le_of_ble_eq_true rfl) rfl (dk KX9_could 78 rfl) h (fun hi16 h => ?_)
          refine X_icmp_lt 164 (dk KX9_could 79 rfl) (by decide) (fun hc => ?_) (fun hc => ?_)
          · have h := hO_t hc h
            exact tX9_could_164 ih x1 x2 x3 x4 x5 σ h
          · have h := hO_f hc h
            refine X_aload_n 0 rfl (dk KX9_could 80 rfl) ?_
            refine Y_getR 171 fX9_134 (Nat.le_of_ble_eq_true rfl) rfl rfl (dk KX9_could 81 rfl) ?_
            refine X_iload 5 rfl (dk KX9_could 82 rfl) ?_
            refine Y_iald (Nat.le_of_ble_eq_true rfl) rfl (dk KX9_could 83 rfl) h (fun hi17 h => ?_)
            refine X_aload_n 0 rfl (dk KX9_could 84 rfl) ?_
            refine Y_getR 171 fX9_134 (Nat.le_of_ble_eq_true rfl) rfl rfl (dk KX9_could 85 rfl) ?_
            refine X_iload_n 3 rfl (dk KX9_could 86 rfl) ?_
            refine Y_iald (Nat.le_of_ble_eq_true rfl) rfl (dk KX9_could 87 rfl) h (fun hi18 h => ?_)
            refine X_icmp_ne 185 (dk KX9_could 88 rfl) (by decide) (fun hc => ?_) (fun hc => ?_)
            · have h := hO_f hc h
              exact tX9_could_185 ih x1 x2 x3 x4 x5 σ h
            · have h := hO_t hc h
              refine X_iload 5 rfl (dk KX9_could 89 rfl) ?_
              refine X_iload_n 3 rfl (dk KX9_could 90 rfl) ?_
              refine X_icmp_ge 185 (dk KX9_could 91 rfl) (by decide) (fun hc => ?_) (fun hc => ?_)
              · have h := hO_t hc h
                exact tX9_could_185 ih x1 x2 x3 x4 x5 σ h
              · have h := hO_f hc h
                exact tX9_could_164 ih x1 x2 x3 x4 x5 σ h
def fX9_could_79 (r27 : Int32 → Int32 → Int32 → Int32 → PS → Option (Int32 × PS)) (x1 : Int32) (x2 : Int32) (x3 : Int32) (x4 : Int32) (σ : PS) : Option (Int32 × PS) := r27 x1 x2 x3 (x4 + 1) σ
set_option maxRecDepth 100000 in
set_option maxHeartbeats 4000000 in
theorem tX9_could_79 {P : Int32 × PS → Prop} {r27 : Int32 → Int32 → Int32 → Int32 → PS → Option (Int32 × PS)} (hr_27 : ∀ (x1 : Int32) (x2 : Int32) (x3 : Int32) (x4 : Int32) (σ : PS), hO (r27 x1 x2 x3 x4 σ) P → X g mX9_could 5 0 0 (pI P) 27 [(0, .ref 132), (1, .int x1), (2, .int x2), (3, .int x3), (4, .int x4)] [] (HP σ)) (x1 : Int32) (x2 : Int32) (x3 : Int32) (x4 : Int32) (σ : PS) (h : hO (fX9_could_79 r27 x1 x2 x3 x4 σ) P) : X g mX9_could 5 0 0 (pI P) 79 [(0, .ref 132), (1, .int x1), (2, .int x2), (3, .int x3), (4, .int x4)] [] (HP σ) := by
  unfold fX9_could_79 at h
  refine X_iinc 4 1 [(4, .int (x4 + 1)), (0, .ref 132), (1, .int x1), (2, .int x2), (3, .int x3)] (dk KX9_could 45 rfl) rfl (by decide) (by decide) rfl ?_
  refine X_goto 27 (dk KX9_could 46 rfl) (by decide) ?_
  refine X_sub [(0, .ref 132), (1, .int x1), (2, .int x2), (3, .int x3), (4, .int (x4 + 1))] [1, 2, 3, 4, 0] rfl ?_
  exact hr_27 x1 x2 x3 (x4 + 1) σ h
def fX9_could_76 (r27 : Int32 → Int32 → Int32 → Int32 → PS → Option (Int32 × PS)) (x1 : Int32) (x2 : Int32) (x4 : Int32) (σ : PS) : Option (Int32 × PS) := fX9_could_79 r27 x1 x2 x4 x4 σ
set_option maxRecDepth 100000 in
set_option maxHeartbeats 4000000 in
theorem tX9_could_76 {P : Int32 × PS → Prop} {r27 : Int32 → Int32 → Int32 → Int32 → PS → Option (Int32 × PS)} (hr_27 : ∀ (x1 : Int32) (x2 : Int32) (x3 : Int32) (x4 : Int32) (σ : PS), hO (r27 x1 x2 x3 x4 σ) P → X g mX9_could 5 0 0 (pI P) 27 [(0, .ref 132), (1, .int x1), (2, .int x2), (3, .int x3), (4, .int x4)] [] (HP σ)) (x1 : Int32) (x2 : Int32) (x4 : Int32) (σ : PS) (h : hO (fX9_could_76 r27 x1 x2 x4 σ) P) : X g mX9_could 5 0 0 (pI P) 76 [(0, .ref 132), (1, .int x1), (2, .int x2), (4, .int x4)] [] (HP σ) := by
  unfold fX9_could_76 at h
  refine X_iload 3 rfl (dk KX9_could 43 rfl) ?_
  refine X_istore_n [(3, .int x4), (0, .ref 132), (1, .int x1), (2, .int x2), (4, .int x4)] (dk KX9_could 44 rfl) (by decide) rfl ?_
  refine X_sub [(0, .ref 132), (1, .int x1), (2, .int x2), (3, .int x4), (4, .int x4)] [1, 2, 3, 0, 4] rfl ?_
  exact tX9_could_79 hr_27 x1 x2 x4 x4 σ h
def fX9_could_27 : Nat → Int32 → Int32 → Int32 → Int32 → PS → Option (Int32 × PS)
  | 0, _, _, _, _, _ => none
  | n + 1, x1, x2, x3, x4, σ => (if x2 ≤ x4 then (if x3 = (-1) then some ((-1), σ) else fX9_could_98 FU x1 x2 x3 (-1) 0 σ) else gd (inb x4 300) ((if (gi σ 169 (x4 : Int32).toNatClampNeg) = 1 then gd (inb x4 300) ((if (gi σ 170 (x4 : Int32).toNatClampNeg) = x1 then (if x3 = (-1) then fX9_could_76 (fX9_could_27 n) x1 x2 x4 σ else gd (inb x4 300) (gd (inb x3 300) ((if (gi σ 171 (x3 : Int32).toNatClampNeg) ≤ (gi σ 171 (x4 : Int32).toNatClampNeg) then fX9_could_79 (fX9_could_27 n) x1 x2 x3 x4 σ else fX9_could_76 (fX9_could_27 n) x1 x2 x4 σ)))) else fX9_could_79 (fX9_could_27 n) x1 x2 x3 x4 σ)) else fX9_could_79 (fX9_could_27 n) x1 x2 x3 x4 σ)))
set_option maxRecDepth 100000 in
set_option maxHeartbeats 4000000 in
theorem tX9_could_27 {P : Int32 × PS → Prop} : ∀ (n : Nat) (x1 : Int32) (x2 : Int32) (x3 : Int32) (x4 : Int32) (σ : PS), hO (fX9_could_27 n x1 x2 x3 x4 σ) P → X g mX9_could 5 0 0 (pI P) 27 [(0, .ref 132), (1, .int x1), (2, .int x2), (3, .int x3), (4, .int x4)] [] (HP σ) := by
  intro n
  induction n with
  | zero =>
    intro x1 x2 x3 x4 σ h
    rw [fX9_could_27] at h
    exact (hO_none h).elim
  | succ n ih =>
    intro x1 x2 x3 x4 σ h
    rw [fX9_could_27] at h
    refine X_iload 4 rfl (dk KX9_could 16 rfl) ?_
    refine X_iload_n 2 rfl (dk KX9_could 17 rfl) ?_
    refine X_icmp_ge 85 (dk KX9_could 18 rfl) (by decide) (fun hc => ?_) (fun hc => ?_)
    · have h := hO_t hc h
      refine X_iload_n 3 rfl (dk KX9_could 47 rfl) ?_
      refine X_iconst (dk KX9_could 48 rfl) (-1) (by decide) ?_
      refine X_icmp_ne 92 (dk KX9_could 49 rfl) (by decide) (fun hc => ?_) (fun hc => ?_)
      · have h := hO_f hc h
        refine X_iconst (dk KX9_could 52 rfl) (-1) (by decide) ?_
        refine X_istore [(4, .int (-1)), (0, .ref 132), (1, .int x1), (2, .int x2), (3, .int x3)] (dk KX9_could 53 rfl) (by decide) rfl ?_
        refine X_iconst (dk KX9_could 54 rfl) 0 (by decide) ?_
        refine X_istore [(5, .int 0), (4, .int (-1)), (0, .ref 132), (1, .int x1), (2, .int x2), (3, .int x3)] (dk KX9_could 55 rfl) (by decide) rfl ?_
        refine X_sub [(0, .ref 132), (1, .int x1), (2, .int x2), (3, .int x3), (4, .int (-1)), (5, .int 0)] [2, 3, 4, 5, 1, 0] rfl ?_
        exact tX9_could_98 FU x1 x2 x3 (-1) 0 σ h
      · have h := hO_t hc h
        refine X_iconst (dk KX9_could 50 rfl) (-1) (by decide) ?_
        exact Y_iret (dk KX9_could 51 rfl) rfl h
    · have h := hO_f hc h
      refine X_aload_n 0 rfl (dk KX9_could 19 rfl) ?_
      refine Y_getR 169 fX9_128 (Nat.le_of_ble_eq_true rfl) rfl rfl (dk KX9_could 20 rfl) ?_
      refine X_iload 4 rfl (dk KX9_could 21 rfl) ?_
      refine Y_iald (Nat.le_of_ble_eq_true rfl) rfl (dk KX9_could 22 rfl) h (fun hi4 h => ?_)
      refine X_iconst (dk KX9_could 23 rfl) 1 (by decide) ?_
      refine X_icmp_ne 79 (dk KX9_could 24 rfl) (by decide) (fun hc => ?_) (fun hc => ?_)
      · have h := hO_f hc h
        exact tX9_could_79 ih x1 x2 x3 x4 σ h
      · have h := hO_t hc h
        refine X_aload_n 0 rfl (dk KX9_could 25 rfl) ?_
        refine Y_getR 170 fX9_131 (Nat.le_of_ble_eq_true rfl) rfl rfl (dk KX9_could 26 rfl) ?_
        refine X_iload 4 rfl (dk KX9_could 27 rfl) ?_
        refine Y_iald (Nat.le_of_ble_eq_true rfl) rfl (dk KX9_could 28 rfl) h (fun hi5 h => ?_)
        refine X_iload_n 1 rfl (dk KX9_could 29 rfl) ?_
        refine X_icmp_ne 79 (dk KX9_could 30 rfl) (by decide) (fun hc => ?_) (fun hc => ?_)
        · have h := hO_f hc h
          exact tX9_could_79 ih x1 x2 x3 x4 σ h
        · have h := hO_t hc h
          refine X_iload_n 3 rfl (dk KX9_could 31 rfl) ?_
          refine X_iconst (dk KX9_could 32 rfl) (-1) (by decide) ?_
          refine X_icmp_eq 76 (dk KX9_could 33 rfl) (by decide) (fun hc => ?_) (fun hc => ?_)
          · have h := hO_t hc h
            refine X_sub [(0, .ref 132), (1, .int x1), (2, .int x2), (4, .int x4)] [0, 1, 2, 4] rfl ?_
            exact tX9_could_76 ih x1 x2 x4 σ h
          · have h := hO_f hc h
            refine X_aload_n 0 rfl (dk KX9_could 34 rfl) ?_
            refine Y_getR 171 fX9_134 (Nat.le_of_ble_eq_true rfl) rfl rfl (dk KX9_could 35 rfl) ?_
            refine X_iload 4 rfl (dk KX9_could 36 rfl) ?_
            refine Y_iald (Nat.le_of_ble_eq_true rfl) rfl (dk KX9_could 37 rfl) h (fun hi6 h => ?_)
            refine X_aload_n 0 rfl (dk KX9_could 38 rfl) ?_
            refine Y_getR 171 fX9_134 (Nat.le_of_ble_eq_true rfl) rfl rfl (dk KX9_could 39 rfl) ?_
            refine X_iload_n 3 rfl (dk KX9_could 40 rfl) ?_
            refine Y_iald (Nat.le_of_ble_eq_true rfl) rfl (dk KX9_could 41 rfl) h (fun hi7 h => ?_)
            refine X_icmp_ge 79 (dk KX9_could 42 rfl) (by decide) (fun hc => ?_) (fun hc => ?_)
            · have h := hO_t hc h
              exact tX9_could_79 ih x1 x2 x3 x4 σ h
            · have h := hO_f hc h
              refine X_sub [(0, .ref 132), (1, .int x1), (2, .int x2), (4, .int x4)] [0, 1, 2, 4] rfl ?_
              exact tX9_could_76 ih x1 x2 x4 σ h
def fX9_could (a1 : Int32) (a2 : Int32) (σ : PS) : Option (Int32 × PS) := (if a1 < 0 then some ((-1), σ) else (if (gi σ 132 52) ≤ a1 then some ((-1), σ) else (fX9_isKnown a2 σ).bind (fun qy1 => (fun (y1 : Int32) (σ2 : PS) => (if y1 = 0 then some ((-1), σ2) else fX9_could_27 FU a1 a2 (-1) 0 σ2)) qy1.1 qy1.2)))
set_option maxRecDepth 100000 in
set_option maxHeartbeats 4000000 in
theorem okX9_could (a1 : Int32) (a2 : Int32) (σ : PS) (P : Int32 × PS → Prop) (h : hO (fX9_could a1 a2 σ) P) : CON g mX9_could 5 0 0 [.ref 132, .int a1, .int a2] (HP σ) (pI P) := by
  refine CON.of (by decide) (by simp [lg_sl, Value.category]) ?_
  show X g _ _ _ _ _ 0 [(0, .ref 132), (1, .int a1), (2, .int a2)] [] _
  unfold fX9_could at h
  refine X_iload_n 1 rfl (dk KX9_could 0 rfl) ?_
  refine X_if_lt 20 (dk KX9_could 1 rfl) (by decide) (fun hc => ?_) (fun hc => ?_)
  · have h := hO_t hc h
    refine X_iconst (dk KX9_could 10 rfl) (-1) (by decide) ?_
    exact Y_iret (dk KX9_could 11 rfl) rfl h
  · have h := hO_f hc h
    refine X_iload_n 1 rfl (dk KX9_could 2 rfl) ?_
    refine X_aload_n 0 rfl (dk KX9_could 3 rfl) ?_
    refine Y_getI fX9_324 (Nat.le_of_ble_eq_true rfl) rfl (dk KX9_could 4 rfl) ?_
    refine X_icmp_ge 20 (dk KX9_could 5 rfl) (by decide) (fun hc => ?_) (fun hc => ?_)
    · have h := hO_t hc h
      refine X_iconst (dk KX9_could 10 rfl) (-1) (by decide) ?_
      exact Y_iret (dk KX9_could 11 rfl) rfl h
    · have h := hO_f hc h
      refine X_aload_n 0 rfl (dk KX9_could 6 rfl) ?_
      refine X_iload_n 2 rfl (dk KX9_could 7 rfl) ?_
      refine Y_callVI wX9_366 (Nat.le_of_ble_eq_true rfl) rfl [.int a2] [] rfl rfl (Nat.le_of_ble_eq_true rfl) (Nat.le_of_ble_eq_true rfl) (dk KX9_could 8 rfl) (fun Pc h => okX9_isKnown _ _ Pc h) h (fun y1 σ2 e3 h => ?_)
      try dsimp only at h
      refine X_if_ne 22 (dk KX9_could 9 rfl) (by decide) (fun hc => ?_) (fun hc => ?_)
      · have h := hO_f hc h
        refine X_iconst (dk KX9_could 12 rfl) (-1) (by decide) ?_
        refine X_istore_n [(3, .int (-1)), (0, .ref 132), (1, .int a1), (2, .int a2)] (dk KX9_could 13 rfl) (by decide) rfl ?_
        refine X_iconst (dk KX9_could 14 rfl) 0 (by decide) ?_
        refine X_istore [(4, .int 0), (3, .int (-1)), (0, .ref 132), (1, .int a1), (2, .int a2)] (dk KX9_could 15 rfl) (by decide) rfl ?_
        refine X_sub [(0, .ref 132), (1, .int a1), (2, .int a2), (3, .int (-1)), (4, .int 0)] [2, 3, 4, 1, 0] rfl ?_
        exact tX9_could_27 FU a1 a2 (-1) 0 σ2 h
      · have h := hO_t hc h
        refine X_iconst (dk KX9_could 10 rfl) (-1) (by decide) ?_
        exact Y_iret (dk KX9_could 11 rfl) rfl h

def fX9_sealed_73 (r32 : Int32 → Int32 → Int32 → Int32 → PS → Option (Int32 × PS)) (x1 : Int32) (x2 : Int32) (x3 : Int32) (x4 : Int32) (σ : PS) : Option (Int32 × PS) := r32 x1 x2 x3 (x4 + 1) σ
set_option maxRecDepth 100000 in
set_option maxHeartbeats 4000000 in
theorem tX9_sealed_73 {P : Int32 × PS → Prop} {r32 : Int32 → Int32 → Int32 → Int32 → PS → Option (Int32 × PS)} (hr_32 : ∀ (x1 : Int32) (x2 : Int32) (x3 : Int32) (x4 : Int32) (σ : PS), hO (r32 x1 x2 x3 x4 σ) P → X g mX9_sealed 1 0 0 (pI P) 32 [(0, .ref 132), (1, .int x1), (2, .int x2), (3, .int x3), (4, .int x4)] [] (HP σ)) (x1 : Int32) (x2 : Int32) (x3 : Int32) (x4 : Int32) (σ : PS) (h : hO (fX9_sealed_73 r32 x1 x2 x3 x4 σ) P) : X g mX9_sealed 1 0 0 (pI P) 73 [(0, .ref 132), (1, .int x1), (2, .int x2), (3, .int x3), (4, .int x4)] [] (HP σ) := by
  unfold fX9_sealed_73 at h
  refine X_iinc 4 1 [(4, .int (x4 + 1)), (0, .ref 132), (1, .int x1), (2, .int x2), (3, .int x3)] (dk KX9_sealed 40 rfl) rfl (by decide) (by decide) rfl ?_
  refine X_goto 32 (dk KX9_sealed 41 rfl) (by decide) ?_
  refine X_sub [(0, .ref 132), (1, .int x1), (2, .int x2), (3, .int x3), (4, .int (x4 + 1))] [1, 2, 3, 4, 0] rfl ?_
  exact hr_32 x1 x2 x3 (x4 + 1) σ h
def fX9_sealed_32 : Nat → Int32 → Int32 → Int32 → Int32 → PS → Option (Int32 × PS)
  | 0, _, _, _, _, _ => none
  | n + 1, x1, x2, x3, x4, σ => (if x3 ≤ x4 then some (1, σ) else gd (inb x4 300) ((if (gi σ 169 (x4 : Int32).toNatClampNeg) = 1 then gd (inb x4 300) ((if (gi σ 170 (x4 : Int32).toNatClampNeg) = x1 then gd (inb x4 300) ((if x2 < (gi σ 171 (x4 : Int32).toNatClampNeg) then fX9_sealed_73 (fX9_sealed_32 n) x1 x2 x3 x4 σ else some (0, σ))) else fX9_sealed_73 (fX9_sealed_32 n) x1 x2 x3 x4 σ)) else fX9_sealed_73 (fX9_sealed_32 n) x1 x2 x3 x4 σ)))
set_option maxRecDepth 100000 in
set_option maxHeartbeats 4000000 in
theorem tX9_sealed_32 {P : Int32 × PS → Prop} : ∀ (n : Nat) (x1 : Int32) (x2 : Int32) (x3 : Int32) (x4 : Int32) (σ : PS), hO (fX9_sealed_32 n x1 x2 x3 x4 σ) P → X g mX9_sealed 1 0 0 (pI P) 32 [(0, .ref 132), (1, .int x1), (2, .int x2), (3, .int x3), (4, .int x4)] [] (HP σ) := by
  intro n
  induction n with
  | zero =>
    intro x1 x2 x3 x4 σ h
    rw [fX9_sealed_32] at h
    exact (hO_none h).elim
  | succ n ih =>
    intro x1 x2 x3 x4 σ h
    rw [fX9_sealed_32] at h
    refine X_iload 4 rfl (dk KX9_sealed 17 rfl) ?_
    refine X_iload_n 3 rfl (dk KX9_sealed 18 rfl) ?_
    refine X_icmp_ge 79 (dk KX9_sealed 19 rfl) (by decide) (fun hc => ?_) (fun hc => ?_)
    · have h := hO_t hc h
      refine X_iconst (dk KX9_sealed 42 rfl) 1 (by decide) ?_
      exact Y_iret (dk KX9_sealed 43 rfl) rfl h
    · have h := hO_f hc h
      refine X_aload_n 0 rfl (dk KX9_sealed 20 rfl) ?_
      refine Y_getR 169 fX9_128 (Nat.le_of_ble_eq_true rfl) rfl rfl (dk KX9_sealed 21 rfl) ?_
      refine X_iload 4 rfl (dk KX9_sealed 22 rfl) ?_
      refine Y_iald (Nat.le_of_ble_eq_true rfl) rfl (dk KX9_sealed 23 rfl) h (fun hi7 h => ?_)
      refine X_iconst (dk KX9_sealed 24 rfl) 1 (by decide) ?_
      refine X_icmp_ne 73 (dk KX9_sealed 25 rfl) (by decide) (fun hc => ?_) (fun hc => ?_)
      · have h := hO_f hc h
        exact tX9_sealed_73 ih x1 x2 x3 x4 σ h
      · have h := hO_t hc h
        refine X_aload_n 0 rfl (dk KX9_sealed 26 rfl) ?_
        refine Y_getR 170 fX9_131 (Nat.le_of_ble_eq_true rfl) rfl rfl (dk KX9_sealed 27 rfl) ?_
        refine X_iload 4 rfl (dk KX9_sealed 28 rfl) ?_
        refine Y_iald (Nat.le_of_ble_eq_true rfl) rfl (dk KX9_sealed 29 rfl) h (fun hi8 h => ?_)
        refine X_iload_n 1 rfl (dk KX9_sealed 30 rfl) ?_
        refine X_icmp_ne 73 (dk KX9_sealed 31 rfl) (by decide) (fun hc => ?_) (fun hc => ?_)
        · have h := hO_f hc h
          exact tX9_sealed_73 ih x1 x2 x3 x4 σ h
        · have h := hO_t hc h
          refine X_aload_n 0 rfl (dk KX9_sealed 32 rfl) ?_
          refine Y_getR 171 fX9_134 (Nat.le_of_ble_eq_true rfl) rfl rfl (dk KX9_sealed 33 rfl) ?_
          refine X_iload 4 rfl (dk KX9_sealed 34 rfl) ?_
          refine Y_iald (Nat.le_of_ble_eq_true rfl) rfl (dk KX9_sealed 35 rfl) h (fun hi9 h => ?_)
          refine X_iload_n 2 rfl (dk KX9_sealed 36 rfl) ?_
          refine X_icmp_gt 73 (dk KX9_sealed 37 rfl) (by decide) (fun hc => ?_) (fun hc => ?_)
          · have h := hO_t hc h
            exact tX9_sealed_73 ih x1 x2 x3 x4 σ h
          · have h := hO_f hc h
            refine X_iconst (dk KX9_sealed 38 rfl) 0 (by decide) ?_
            exact Y_iret (dk KX9_sealed 39 rfl) rfl h
def fX9_sealed (a1 : Int32) (a2 : Int32) (a3 : Int32) (σ : PS) : Option (Int32 × PS) := (if a1 < 0 then some ((-1), σ) else (if (gi σ 132 52) ≤ a1 then some ((-1), σ) else (fX9_isDay a2 σ).bind (fun qy1 => (fun (y1 : Int32) (σ2 : PS) => (if y1 = 0 then some ((-1), σ2) else (fX9_isKnown a3 σ2).bind (fun qy4 => (fun (y4 : Int32) (σ5 : PS) => (if y4 = 0 then some ((-1), σ5) else fX9_sealed_32 FU a1 a2 a3 0 σ5)) qy4.1 qy4.2))) qy1.1 qy1.2)))
set_option maxRecDepth 100000 in
set_option maxHeartbeats 4000000 in
theorem okX9_sealed (a1 : Int32) (a2 : Int32) (a3 : Int32) (σ : PS) (P : Int32 × PS → Prop) (h : hO (fX9_sealed a1 a2 a3 σ) P) : CON g mX9_sealed 1 0 0 [.ref 132, .int a1, .int a2, .int a3] (HP σ) (pI P) := by
  refine CON.of (by decide) (by simp [lg_sl, Value.category]) ?_
  show X g _ _ _ _ _ 0 [(0, .ref 132), (1, .int a1), (2, .int a2), (3, .int a3)] [] _
  unfold fX9_sealed at h
  refine X_iload_n 1 rfl (dk KX9_sealed 0 rfl) ?_
  refine X_if_lt 27 (dk KX9_sealed 1 rfl) (by decide) (fun hc => ?_) (fun hc => ?_)
  · have h := hO_t hc h
    refine X_iconst (dk KX9_sealed 13 rfl) (-1) (by decide) ?_
    exact Y_iret (dk KX9_sealed 14 rfl) rfl h
  · have h := hO_f hc h
    refine X_iload_n 1 rfl (dk KX9_sealed 2 rfl) ?_
    refine X_aload_n 0 rfl (dk KX9_sealed 3 rfl) ?_
    refine Y_getI fX9_324 (Nat.le_of_ble_eq_true rfl) rfl (dk KX9_sealed 4 rfl) ?_
    refine X_icmp_ge 27 (dk KX9_sealed 5 rfl) (by decide) (fun hc => ?_) (fun hc => ?_)
    · have h := hO_t hc h
      refine X_iconst (dk KX9_sealed 13 rfl) (-1) (by decide) ?_
      exact Y_iret (dk KX9_sealed 14 rfl) rfl h
    · have h := hO_f hc h
      refine X_iload_n 2 rfl (dk KX9_sealed 6 rfl) ?_
      refine Y_callSI wX9_321 [.int a2] [] rfl rfl (Nat.le_of_ble_eq_true rfl) (Nat.le_of_ble_eq_true rfl) (dk KX9_sealed 7 rfl) (fun Pc h => okX9_isDay _ _ Pc h) h (fun y1 σ2 e3 h => ?_)
      try dsimp only at h
      refine X_if_eq 27 (dk KX9_sealed 8 rfl) (by decide) (fun hc => ?_) (fun hc => ?_)
      · have h := hO_t hc h
        refine X_iconst (dk KX9_sealed 13 rfl) (-1) (by decide) ?_
        exact Y_iret (dk KX9_sealed 14 rfl) rfl h
      · have h := hO_f hc h
        refine X_aload_n 0 rfl (dk KX9_sealed 9 rfl) ?_
        refine X_iload_n 3 rfl (dk KX9_sealed 10 rfl) ?_
        refine Y_callVI wX9_366 (Nat.le_of_ble_eq_true rfl) rfl [.int a3] [] rfl rfl (Nat.le_of_ble_eq_true rfl) (Nat.le_of_ble_eq_true rfl) (dk KX9_sealed 11 rfl) (fun Pc h => okX9_isKnown _ _ Pc h) h (fun y4 σ5 e6 h => ?_)
        try dsimp only at h
        refine X_if_ne 29 (dk KX9_sealed 12 rfl) (by decide) (fun hc => ?_) (fun hc => ?_)
        · have h := hO_f hc h
          refine X_iconst (dk KX9_sealed 15 rfl) 0 (by decide) ?_
          refine X_istore [(4, .int 0), (0, .ref 132), (1, .int a1), (2, .int a2), (3, .int a3)] (dk KX9_sealed 16 rfl) (by decide) rfl ?_
          refine X_sub [(0, .ref 132), (1, .int a1), (2, .int a2), (3, .int a3), (4, .int 0)] [1, 2, 3, 4, 0] rfl ?_
          exact tX9_sealed_32 FU a1 a2 a3 0 σ5 h
        · have h := hO_t hc h
          refine X_iconst (dk KX9_sealed 13 rfl) (-1) (by decide) ?_
          exact Y_iret (dk KX9_sealed 14 rfl) rfl h

def fX9_tolls (a1 : Int32) (a2 : Int32) (a3 : Int32) (σ : PS) : Option (Int32 × PS) := (if a1 < 0 then some (0, σ) else (if 4 < a1 then some (0, σ) else (fX9_isDay a2 σ).bind (fun qy1 => (fun (y1 : Int32) (σ2 : PS) => (if y1 = 0 then some (0, σ2) else (fX9_isKnown a3 σ2).bind (fun qy4 => (fun (y4 : Int32) (σ5 : PS) => (if y4 = 0 then some (0, σ5) else (fX9_goes a3 σ5).bind (fun σ8 => gd (inb ((60 * a1) + a2) 300) (some ((gi σ8 180 (((60 * a1) + a2) : Int32).toNatClampNeg), σ8))))) qy4.1 qy4.2))) qy1.1 qy1.2)))
set_option maxRecDepth 100000 in
set_option maxHeartbeats 4000000 in
theorem okX9_tolls (a1 : Int32) (a2 : Int32) (a3 : Int32) (σ : PS) (P : Int32 × PS → Prop) (h : hO (fX9_tolls a1 a2 a3 σ) P) : CON g mX9_tolls 5 0 0 [.ref 132, .int a1, .int a2, .int a3] (HP σ) (pI P) := by
  refine CON.of (by decide) (by simp [lg_sl, Value.category]) ?_
  show X g _ _ _ _ _ 0 [(0, .ref 132), (1, .int a1), (2, .int a2), (3, .int a3)] [] _
  unfold fX9_tolls at h
  refine X_iload_n 1 rfl (dk KX9_tolls 0 rfl) ?_
  refine X_if_lt 24 (dk KX9_tolls 1 rfl) (by decide) (fun hc => ?_) (fun hc => ?_)
  · have h := hO_t hc h
    refine X_iconst (dk KX9_tolls 12 rfl) 0 (by decide) ?_
    exact Y_iret (dk KX9_tolls 13 rfl) rfl h
  · have h := hO_f hc h
    refine X_iload_n 1 rfl (dk KX9_tolls 2 rfl) ?_
    refine X_iconst (dk KX9_tolls 3 rfl) 4 (by decide) ?_
    refine X_icmp_gt 24 (dk KX9_tolls 4 rfl) (by decide) (fun hc => ?_) (fun hc => ?_)
    · have h := hO_t hc h
      refine X_iconst (dk KX9_tolls 12 rfl) 0 (by decide) ?_
      exact Y_iret (dk KX9_tolls 13 rfl) rfl h
    · have h := hO_f hc h
      refine X_iload_n 2 rfl (dk KX9_tolls 5 rfl) ?_
      refine Y_callSI wX9_321 [.int a2] [] rfl rfl (Nat.le_of_ble_eq_true rfl) (Nat.le_of_ble_eq_true rfl) (dk KX9_tolls 6 rfl) (fun Pc h => okX9_isDay _ _ Pc h) h (fun y1 σ2 e3 h => ?_)
      try dsimp only at h
      refine X_if_eq 24 (dk KX9_tolls 7 rfl) (by decide) (fun hc => ?_) (fun hc => ?_)
      · have h := hO_t hc h
        refine X_iconst (dk KX9_tolls 12 rfl) 0 (by decide) ?_
        exact Y_iret (dk KX9_tolls 13 rfl) rfl h
      · have h := hO_f hc h
        refine X_aload_n 0 rfl (dk KX9_tolls 8 rfl) ?_
        refine X_iload_n 3 rfl (dk KX9_tolls 9 rfl) ?_
        refine Y_callVI wX9_366 (Nat.le_of_ble_eq_true rfl) rfl [.int a3] [] rfl rfl (Nat.le_of_ble_eq_true rfl) (Nat.le_of_ble_eq_true rfl) (dk KX9_tolls 10 rfl) (fun Pc h => okX9_isKnown _ _ Pc h) h (fun y4 σ5 e6 h => ?_)
        try dsimp only at h
        refine X_if_ne 26 (dk KX9_tolls 11 rfl) (by decide) (fun hc => ?_) (fun hc => ?_)
        · have h := hO_f hc h
          refine X_aload_n 0 rfl (dk KX9_tolls 14 rfl) ?_
          refine X_iload_n 3 rfl (dk KX9_tolls 15 rfl) ?_
          refine Y_callVV wX9_370 (Nat.le_of_ble_eq_true rfl) rfl [.int a3] [] rfl rfl (Nat.le_of_ble_eq_true rfl) (Nat.le_of_ble_eq_true rfl) (dk KX9_tolls 16 rfl) (fun Pc h => okX9_goes _ _ Pc h) h (fun σ8 e9 h => ?_)
          try dsimp only at h
          refine X_aload_n 0 rfl (dk KX9_tolls 17 rfl) ?_
          refine Y_getR 180 fX9_164 (Nat.le_of_ble_eq_true rfl) rfl rfl (dk KX9_tolls 18 rfl) ?_
          refine X_bipush (dk KX9_tolls 19 rfl) 60 (by decide) ?_
          refine X_iload_n 1 rfl (dk KX9_tolls 20 rfl) ?_
          refine X_imul (dk KX9_tolls 21 rfl) ?_
          refine X_iload_n 2 rfl (dk KX9_tolls 22 rfl) ?_
          refine X_iadd (dk KX9_tolls 23 rfl) ?_
          refine Y_iald (Nat.le_of_ble_eq_true rfl) rfl (dk KX9_tolls 24 rfl) h (fun hi10 h => ?_)
          exact Y_iret (dk KX9_tolls 25 rfl) rfl h
        · have h := hO_t hc h
          refine X_iconst (dk KX9_tolls 12 rfl) 0 (by decide) ?_
          exact Y_iret (dk KX9_tolls 13 rfl) rfl h

def fX9_crowded_83 (r33 : Int32 → Int32 → PS → Option (Int32 × PS)) (r43 : Int32 → Int32 → Int32 → PS → Option (Int32 × PS)) (x1 : Int32) (x4 : Int32) (x5 : Int32) (σ : PS) : Option (Int32 × PS) := r43 x1 x4 (x5 + 1) σ
set_option maxRecDepth 100000 in
set_option maxHeartbeats 4000000 in
theorem tX9_crowded_83 {P : Int32 × PS → Prop} {r33 : Int32 → Int32 → PS → Option (Int32 × PS)} (hr_33 : ∀ (x1 : Int32) (x4 : Int32) (σ : PS), hO (r33 x1 x4 σ) P → X g mX9_crowded 5 0 0 (pI P) 33 [(0, .ref 132), (1, .int x1), (4, .int x4)] [] (HP σ)) {r43 : Int32 → Int32 → Int32 → PS → Option (Int32 × PS)} (hr_43 : ∀ (x1 : Int32) (x4 : Int32) (x5 : Int32) (σ : PS), hO (r43 x1 x4 x5 σ) P → X g mX9_crowded 5 0 0 (pI P) 43 [(0, .ref 132), (1, .int x1), (4, .int x4), (5, .int x5)] [] (HP σ)) (x1 : Int32) (x4 : Int32) (x5 : Int32) (σ : PS) (h : hO (fX9_crowded_83 r33 r43 x1 x4 x5 σ) P) : X g mX9_crowded 5 0 0 (pI P) 83 [(0, .ref 132), (1, .int x1), (4, .int x4), (5, .int x5)] [] (HP σ) := by
  unfold fX9_crowded_83 at h
  refine X_iinc 3 1 [(5, .int (x5 + 1)), (0, .ref 132), (1, .int x1), (4, .int x4)] (dk KX9_crowded 44 rfl) rfl (by decide) (by decide) rfl ?_
  refine X_goto 43 (dk KX9_crowded 45 rfl) (by decide) ?_
  refine X_sub [(0, .ref 132), (1, .int x1), (4, .int x4), (5, .int (x5 + 1))] [1, 2, 3, 0] rfl ?_
  exact hr_43 x1 x4 (x5 + 1) σ h
def fX9_crowded_43 (r33 : Int32 → Int32 → PS → Option (Int32 × PS)) : Nat → Int32 → Int32 → Int32 → PS → Option (Int32 × PS)
  | 0, _, _, _, _ => none
  | n + 1, x1, x4, x5, σ => (if (gi σ 132 44) ≤ x5 then r33 x1 (x4 + 1) σ else gd (inb ((60 * x5) + x4) 360) ((if (gi σ 172 (((60 * x5) + x4) : Int32).toNatClampNeg) = x1 then (fX9_isOutside x5 x4 σ).bind (fun qy14 => (fun (y14 : Int32) (σ15 : PS) => (if y14 = 0 then fX9_crowded_83 r33 (fX9_crowded_43 r33 n) x1 x4 x5 σ15 else some (x4, σ15))) qy14.1 qy14.2) else fX9_crowded_83 r33 (fX9_crowded_43 r33 n) x1 x4 x5 σ)))
set_option maxRecDepth 100000 in
set_option maxHeartbeats 4000000 in
theorem tX9_crowded_43 {P : Int32 × PS → Prop} {r33 : Int32 → Int32 → PS → Option (Int32 × PS)} (hr_33 : ∀ (x1 : Int32) (x4 : Int32) (σ : PS), hO (r33 x1 x4 σ) P → X g mX9_crowded 5 0 0 (pI P) 33 [(0, .ref 132), (1, .int x1), (4, .int x4)] [] (HP σ)) : ∀ (n : Nat) (x1 : Int32) (x4 : Int32) (x5 : Int32) (σ : PS), hO (fX9_crowded_43 r33 n x1 x4 x5 σ) P → X g mX9_crowded 5 0 0 (pI P) 43 [(0, .ref 132), (1, .int x1), (4, .int x4), (5, .int x5)] [] (HP σ) := by
  intro n
  induction n with
  | zero =>
    intro x1 x4 x5 σ h
    rw [fX9_crowded_43] at h
    exact (hO_none h).elim
  | succ n ih =>
    intro x1 x4 x5 σ h
    rw [fX9_crowded_43] at h
    refine X_iload 3 rfl (dk KX9_crowded 23 rfl) ?_
    refine X_aload_n 0 rfl (dk KX9_crowded 24 rfl) ?_
    refine Y_getI fX9_312 (Nat.le_of_ble_eq_true rfl) rfl (dk KX9_crowded 25 rfl) ?_
    refine X_icmp_ge 89 (dk KX9_crowded 26 rfl) (by decide) (fun hc => ?_) (fun hc => ?_)
    · have h := hO_t hc h
      refine X_iinc 2 1 [(4, .int (x4 + 1)), (0, .ref 132), (1, .int x1), (5, .int x5)] (dk KX9_crowded 46 rfl) rfl (by decide) (by decide) rfl ?_
      refine X_goto 33 (dk KX9_crowded 47 rfl) (by decide) ?_
      refine X_sub [(0, .ref 132), (1, .int x1), (4, .int (x4 + 1))] [1, 2, 0] rfl ?_
      exact hr_33 x1 (x4 + 1) σ h
    · have h := hO_f hc h
      refine X_aload_n 0 rfl (dk KX9_crowded 27 rfl) ?_
      refine Y_getR 172 fX9_140 (Nat.le_of_ble_eq_true rfl) rfl rfl (dk KX9_crowded 28 rfl) ?_
      refine X_bipush (dk KX9_crowded 29 rfl) 60 (by decide) ?_
      refine X_iload 3 rfl (dk KX9_crowded 30 rfl) ?_
      refine X_imul (dk KX9_crowded 31 rfl) ?_
      refine X_iload 2 rfl (dk KX9_crowded 32 rfl) ?_
      refine X_iadd (dk KX9_crowded 33 rfl) ?_
      refine Y_iald (Nat.le_of_ble_eq_true rfl) rfl (dk KX9_crowded 34 rfl) h (fun hi13 h => ?_)
      refine X_iload_n 1 rfl (dk KX9_crowded 35 rfl) ?_
      refine X_icmp_ne 83 (dk KX9_crowded 36 rfl) (by decide) (fun hc => ?_) (fun hc => ?_)
      · have h := hO_f hc h
        exact tX9_crowded_83 hr_33 ih x1 x4 x5 σ h
      · have h := hO_t hc h
        refine X_aload_n 0 rfl (dk KX9_crowded 37 rfl) ?_
        refine X_iload 3 rfl (dk KX9_crowded 38 rfl) ?_
        refine X_iload 2 rfl (dk KX9_crowded 39 rfl) ?_
        refine Y_callVI wX9_373 (Nat.le_of_ble_eq_true rfl) rfl [.int x5, .int x4] [] rfl rfl (Nat.le_of_ble_eq_true rfl) (Nat.le_of_ble_eq_true rfl) (dk KX9_crowded 40 rfl) (fun Pc h => okX9_isOutside _ _ _ Pc h) h (fun y14 σ15 e16 h => ?_)
        try dsimp only at h
        refine X_if_eq 83 (dk KX9_crowded 41 rfl) (by decide) (fun hc => ?_) (fun hc => ?_)
        · have h := hO_t hc h
          exact tX9_crowded_83 hr_33 ih x1 x4 x5 σ15 h
        · have h := hO_f hc h
          refine X_iload 2 rfl (dk KX9_crowded 42 rfl) ?_
          exact Y_iret (dk KX9_crowded 43 rfl) rfl h
def fX9_crowded_33 : Nat → Int32 → Int32 → PS → Option (Int32 × PS)
  | 0, _, _, _ => none
  | n + 1, x1, x4, σ => (if 60 ≤ x4 then some ((-1), σ) else fX9_crowded_43 (fX9_crowded_33 n) FU x1 x4 0 σ)
set_option maxRecDepth 100000 in
set_option maxHeartbeats 4000000 in
theorem tX9_crowded_33 {P : Int32 × PS → Prop} : ∀ (n : Nat) (x1 : Int32) (x4 : Int32) (σ : PS), hO (fX9_crowded_33 n x1 x4 σ) P → X g mX9_crowded 5 0 0 (pI P) 33 [(0, .ref 132), (1, .int x1), (4, .int x4)] [] (HP σ) := by
  intro n
  induction n with
  | zero =>
    intro x1 x4 σ h
    rw [fX9_crowded_33] at h
    exact (hO_none h).elim
  | succ n ih =>
    intro x1 x4 σ h
    rw [fX9_crowded_33] at h
    refine X_iload 2 rfl (dk KX9_crowded 18 rfl) ?_
    refine X_bipush (dk KX9_crowded 19 rfl) 60 (by decide) ?_
    refine X_icmp_ge 95 (dk KX9_crowded 20 rfl) (by decide) (fun hc => ?_) (fun hc => ?_)
    · have h := hO_t hc h
      refine X_iconst (dk KX9_crowded 48 rfl) (-1) (by decide) ?_
      exact Y_iret (dk KX9_crowded 49 rfl) rfl h
    · have h := hO_f hc h
      refine X_iconst (dk KX9_crowded 21 rfl) 0 (by decide) ?_
      refine X_istore [(5, .int 0), (0, .ref 132), (1, .int x1), (4, .int x4)] (dk KX9_crowded 22 rfl) (by decide) rfl ?_
      refine X_sub [(0, .ref 132), (1, .int x1), (4, .int x4), (5, .int 0)] [1, 2, 3, 0] rfl ?_
      exact tX9_crowded_43 ih FU x1 x4 0 σ h
def fX9_crowded (a1 : Int32) (a2 : Int32) (a3 : Int32) (σ : PS) : Option (Int32 × PS) := (fX9_isInn a1 σ).bind (fun qy1 => (fun (y1 : Int32) (σ2 : PS) => (if y1 = 0 then some ((-1), σ2) else (fX9_isDay a2 σ2).bind (fun qy4 => (fun (y4 : Int32) (σ5 : PS) => (if y4 = 0 then some ((-1), σ5) else (fX9_isKnown a3 σ5).bind (fun qy7 => (fun (y7 : Int32) (σ8 : PS) => (if y7 = 0 then some ((-1), σ8) else (fX9_goes a3 σ8).bind (fun σ11 => fX9_crowded_33 FU a1 a2 σ11))) qy7.1 qy7.2))) qy4.1 qy4.2))) qy1.1 qy1.2)
set_option maxRecDepth 100000 in
set_option maxHeartbeats 4000000 in
theorem okX9_crowded (a1 : Int32) (a2 : Int32) (a3 : Int32) (σ : PS) (P : Int32 × PS → Prop) (h : hO (fX9_crowded a1 a2 a3 σ) P) : CON g mX9_crowded 5 0 0 [.ref 132, .int a1, .int a2, .int a3] (HP σ) (pI P) := by
  refine CON.of (by decide) (by simp [lg_sl, Value.category]) ?_
  show X g _ _ _ _ _ 0 [(0, .ref 132), (1, .int a1), (2, .int a2), (3, .int a3)] [] _
  unfold fX9_crowded at h
  refine X_aload_n 0 rfl (dk KX9_crowded 0 rfl) ?_
  refine X_iload_n 1 rfl (dk KX9_crowded 1 rfl) ?_
  refine Y_callVI wX9_318 (Nat.le_of_ble_eq_true rfl) rfl [.int a1] [] rfl rfl (Nat.le_of_ble_eq_true rfl) (Nat.le_of_ble_eq_true rfl) (dk KX9_crowded 2 rfl) (fun Pc h => okX9_isInn _ _ Pc h) h (fun y1 σ2 e3 h => ?_)
  try dsimp only at h
  refine X_if_eq 23 (dk KX9_crowded 3 rfl) (by decide) (fun hc => ?_) (fun hc => ?_)
  · have h := hO_t hc h
    refine X_iconst (dk KX9_crowded 11 rfl) (-1) (by decide) ?_
    exact Y_iret (dk KX9_crowded 12 rfl) rfl h
  · have h := hO_f hc h
    refine X_iload_n 2 rfl (dk KX9_crowded 4 rfl) ?_
    refine Y_callSI wX9_321 [.int a2] [] rfl rfl (Nat.le_of_ble_eq_true rfl) (Nat.le_of_ble_eq_true rfl) (dk KX9_crowded 5 rfl) (fun Pc h => okX9_isDay _ _ Pc h) h (fun y4 σ5 e6 h => ?_)
    try dsimp only at h
    refine X_if_eq 23 (dk KX9_crowded 6 rfl) (by decide) (fun hc => ?_) (fun hc => ?_)
    · have h := hO_t hc h
      refine X_iconst (dk KX9_crowded 11 rfl) (-1) (by decide) ?_
      exact Y_iret (dk KX9_crowded 12 rfl) rfl h
    · have h := hO_f hc h
      refine X_aload_n 0 rfl (dk KX9_crowded 7 rfl) ?_
      refine X_iload_n 3 rfl (dk KX9_crowded 8 rfl) ?_
      refine Y_callVI wX9_366 (Nat.le_of_ble_eq_true rfl) rfl [.int a3] [] rfl rfl (Nat.le_of_ble_eq_true rfl) (Nat.le_of_ble_eq_true rfl) (dk KX9_crowded 9 rfl) (fun Pc h => okX9_isKnown _ _ Pc h) h (fun y7 σ8 e9 h => ?_)
      try dsimp only at h
      refine X_if_ne 25 (dk KX9_crowded 10 rfl) (by decide) (fun hc => ?_) (fun hc => ?_)
      · have h := hO_f hc h
        refine X_aload_n 0 rfl (dk KX9_crowded 13 rfl) ?_
        refine X_iload_n 3 rfl (dk KX9_crowded 14 rfl) ?_
        refine Y_callVV wX9_370 (Nat.le_of_ble_eq_true rfl) rfl [.int a3] [] rfl rfl (Nat.le_of_ble_eq_true rfl) (Nat.le_of_ble_eq_true rfl) (dk KX9_crowded 15 rfl) (fun Pc h => okX9_goes _ _ Pc h) h (fun σ11 e12 h => ?_)
        try dsimp only at h
        refine X_iload_n 2 rfl (dk KX9_crowded 16 rfl) ?_
        refine X_istore [(4, .int a2), (0, .ref 132), (1, .int a1), (2, .int a2), (3, .int a3)] (dk KX9_crowded 17 rfl) (by decide) rfl ?_
        refine X_sub [(0, .ref 132), (1, .int a1), (4, .int a2)] [1, 2, 0] rfl ?_
        exact tX9_crowded_33 FU a1 a2 σ11 h
      · have h := hO_t hc h
        refine X_iconst (dk KX9_crowded 11 rfl) (-1) (by decide) ?_
        exact Y_iret (dk KX9_crowded 12 rfl) rfl h

def fX9_count (a1 : Int32) (σ : PS) : Option (Int32 × PS) := (if a1 = 0 then some ((gi σ 132 38), σ) else (if a1 = 1 then some ((gi σ 132 44), σ) else (if a1 = 2 then some ((gi σ 132 52), σ) else (if a1 = 3 then some ((gi σ 132 54), σ) else (if a1 = 4 then gd (inb (gi σ 132 18) 2) (some ((gi σ 140 ((gi σ 132 18) : Int32).toNatClampNeg), σ)) else (if a1 = 5 then some ((gi σ 132 2), σ) else some ((-1), σ)))))))
set_option maxRecDepth 100000 in
set_option maxHeartbeats 4000000 in
theorem okX9_count (a1 : Int32) (σ : PS) (P : Int32 × PS → Prop) (h : hO (fX9_count a1 σ) P) : CON g mX9_count 0 0 0 [.ref 132, .int a1] (HP σ) (pI P) := by
  refine CON.of (by decide) (by simp [lg_sl, Value.category]) ?_
  show X g _ _ _ _ _ 0 [(0, .ref 132), (1, .int a1)] [] _
  unfold fX9_count at h
  refine X_iload_n 1 rfl (dk KX9_count 0 rfl) ?_
  by_cases hs0 : a1 = (0 : Int32)
  · have h := hO_t hs0 h
    refine Y_tab 0 hs0 40 (dk KX9_count 1 rfl) (by decide) (by decide) rfl (by decide) ?_
    refine X_aload_n 0 rfl (dk KX9_count 2 rfl) ?_
    refine Y_getI fX9_309 (Nat.le_of_ble_eq_true rfl) rfl (dk KX9_count 3 rfl) ?_
    exact Y_iret (dk KX9_count 4 rfl) rfl h
  have h := hO_f hs0 h
  by_cases hs1 : a1 = (1 : Int32)
  · have h := hO_t hs1 h
    refine Y_tab 1 hs1 45 (dk KX9_count 1 rfl) (by decide) (by decide) rfl (by decide) ?_
    refine X_aload_n 0 rfl (dk KX9_count 5 rfl) ?_
    refine Y_getI fX9_312 (Nat.le_of_ble_eq_true rfl) rfl (dk KX9_count 6 rfl) ?_
    exact Y_iret (dk KX9_count 7 rfl) rfl h
  have h := hO_f hs1 h
  by_cases hs2 : a1 = (2 : Int32)
  · have h := hO_t hs2 h
    refine Y_tab 2 hs2 50 (dk KX9_count 1 rfl) (by decide) (by decide) rfl (by decide) ?_
    refine X_aload_n 0 rfl (dk KX9_count 8 rfl) ?_
    refine Y_getI fX9_324 (Nat.le_of_ble_eq_true rfl) rfl (dk KX9_count 9 rfl) ?_
    exact Y_iret (dk KX9_count 10 rfl) rfl h
  have h := hO_f hs2 h
  by_cases hs3 : a1 = (3 : Int32)
  · have h := hO_t hs3 h
    refine Y_tab 3 hs3 55 (dk KX9_count 1 rfl) (by decide) (by decide) rfl (by decide) ?_
    refine X_aload_n 0 rfl (dk KX9_count 11 rfl) ?_
    refine Y_getI fX9_315 (Nat.le_of_ble_eq_true rfl) rfl (dk KX9_count 12 rfl) ?_
    exact Y_iret (dk KX9_count 13 rfl) rfl h
  have h := hO_f hs3 h
  by_cases hs4 : a1 = (4 : Int32)
  · have h := hO_t hs4 h
    refine Y_tab 4 hs4 60 (dk KX9_count 1 rfl) (by decide) (by decide) rfl (by decide) ?_
    refine X_aload_n 0 rfl (dk KX9_count 14 rfl) ?_
    refine Y_getR 140 fX9_40 (Nat.le_of_ble_eq_true rfl) rfl rfl (dk KX9_count 15 rfl) ?_
    refine X_aload_n 0 rfl (dk KX9_count 16 rfl) ?_
    refine Y_getI fX9_274 (Nat.le_of_ble_eq_true rfl) rfl (dk KX9_count 17 rfl) ?_
    refine Y_iald (Nat.le_of_ble_eq_true rfl) rfl (dk KX9_count 18 rfl) h (fun hi1 h => ?_)
    exact Y_iret (dk KX9_count 19 rfl) rfl h
  have h := hO_f hs4 h
  by_cases hs5 : a1 = (5 : Int32)
  · have h := hO_t hs5 h
    refine Y_tab 5 hs5 70 (dk KX9_count 1 rfl) (by decide) (by decide) rfl (by decide) ?_
    refine X_aload_n 0 rfl (dk KX9_count 20 rfl) ?_
    refine Y_getI fX9_207 (Nat.le_of_ble_eq_true rfl) rfl (dk KX9_count 21 rfl) ?_
    exact Y_iret (dk KX9_count 22 rfl) rfl h
  have h := hO_f hs5 h
  refine X_tableOut 75 (dk KX9_count 1 rfl) (sw_out_0_5 hs0 hs1 hs2 hs3 hs4 hs5) (by decide) ?_
  refine X_iconst (dk KX9_count 23 rfl) (-1) (by decide) ?_
  exact Y_iret (dk KX9_count 24 rfl) rfl h

end G
