section G
variable {g : GP}
def fX8_feed (a1 : Int32) (a2 : Int32) (a3 : Int32) (a4 : Int32) (a5 : Int32) (σ : PS) : Option (Int32 × PS) := (if (gi σ 1 1) ≤ 1980 then (fX7_append a1 σ).bind (fun σ2 => (fX7_append a2 σ2).bind (fun σ5 => (fX7_append a3 σ5).bind (fun σ8 => (fX7_append a4 σ8).bind (fun σ11 => (fX7_append a5 σ11).bind (fun σ14 => some ((gi σ14 1 1), σ14)))))) else some ((-1), σ))
set_option maxRecDepth 100000 in
set_option maxHeartbeats 4000000 in
theorem okX8_feed (a1 : Int32) (a2 : Int32) (a3 : Int32) (a4 : Int32) (a5 : Int32) (σ : PS) (P : Int32 × PS → Prop) (h : hO (fX8_feed a1 a2 a3 a4 a5 σ) P) : CON g mX8_feed 1 0 0 [.ref 0, .int a1, .int a2, .int a3, .int a4, .int a5] (HP σ) (pI P) := by
  refine CON.of (by decide) (by simp [lg_sl, Value.category]) ?_
  show X g _ _ _ _ _ 0 [(0, .ref 0), (1, .int a1), (2, .int a2), (3, .int a3), (4, .int a4), (5, .int a5)] [] _
  unfold fX8_feed at h
  refine X_aload_n 0 rfl (dk KX8_feed 0 rfl) ?_
  refine Y_getR 1 fX8_18 (Nat.le_of_ble_eq_true rfl) rfl rfl (dk KX8_feed 1 rfl) ?_
  refine Y_getI fX8_58 (Nat.le_of_ble_eq_true rfl) rfl (dk KX8_feed 2 rfl) ?_
  refine X_sipush (dk KX8_feed 3 rfl) 1980 (by decide) ?_
  refine X_icmp_le 15 (dk KX8_feed 4 rfl) (by decide) (fun hc => ?_) (fun hc => ?_)
  · have h := hO_t hc h
    refine X_aload_n 0 rfl (dk KX8_feed 7 rfl) ?_
    refine Y_getR 1 fX8_18 (Nat.le_of_ble_eq_true rfl) rfl rfl (dk KX8_feed 8 rfl) ?_
    refine X_iload_n 1 rfl (dk KX8_feed 9 rfl) ?_
    refine Y_callVV wX8_62 (Nat.le_of_ble_eq_true rfl) rfl [.int a1] [] rfl rfl (Nat.le_of_ble_eq_true rfl) (Nat.le_of_ble_eq_true rfl) (dk KX8_feed 10 rfl) (fun Pc h => okX7_append _ _ Pc h) h (fun σ2 e3 h => ?_)
    try dsimp only at h
    refine X_aload_n 0 rfl (dk KX8_feed 11 rfl) ?_
    refine Y_getR 1 fX8_18 (Nat.le_of_ble_eq_true rfl) rfl rfl (dk KX8_feed 12 rfl) ?_
    refine X_iload_n 2 rfl (dk KX8_feed 13 rfl) ?_
    refine Y_callVV wX8_62 (Nat.le_of_ble_eq_true rfl) rfl [.int a2] [] rfl rfl (Nat.le_of_ble_eq_true rfl) (Nat.le_of_ble_eq_true rfl) (dk KX8_feed 14 rfl) (fun Pc h => okX7_append _ _ Pc h) h (fun σ5 e6 h => ?_)
    try dsimp only at h
    refine X_aload_n 0 rfl (dk KX8_feed 15 rfl) ?_
    refine Y_getR 1 fX8_18 (Nat.le_of_ble_eq_true rfl) rfl rfl (dk KX8_feed 16 rfl) ?_
    refine X_iload_n 3 rfl (dk KX8_feed 17 rfl) ?_
    refine Y_callVV wX8_62 (Nat.le_of_ble_eq_true rfl) rfl [.int a3] [] rfl rfl (Nat.le_of_ble_eq_true rfl) (Nat.le_of_ble_eq_true rfl) (dk KX8_feed 18 rfl) (fun Pc h => okX7_append _ _ Pc h) h (fun σ8 e9 h => ?_)
    try dsimp only at h
    refine X_aload_n 0 rfl (dk KX8_feed 19 rfl) ?_
    refine Y_getR 1 fX8_18 (Nat.le_of_ble_eq_true rfl) rfl rfl (dk KX8_feed 20 rfl) ?_
    refine X_iload 4 rfl (dk KX8_feed 21 rfl) ?_
    refine Y_callVV wX8_62 (Nat.le_of_ble_eq_true rfl) rfl [.int a4] [] rfl rfl (Nat.le_of_ble_eq_true rfl) (Nat.le_of_ble_eq_true rfl) (dk KX8_feed 22 rfl) (fun Pc h => okX7_append _ _ Pc h) h (fun σ11 e12 h => ?_)
    try dsimp only at h
    refine X_aload_n 0 rfl (dk KX8_feed 23 rfl) ?_
    refine Y_getR 1 fX8_18 (Nat.le_of_ble_eq_true rfl) rfl rfl (dk KX8_feed 24 rfl) ?_
    refine X_iload 5 rfl (dk KX8_feed 25 rfl) ?_
    refine Y_callVV wX8_62 (Nat.le_of_ble_eq_true rfl) rfl [.int a5] [] rfl rfl (Nat.le_of_ble_eq_true rfl) (Nat.le_of_ble_eq_true rfl) (dk KX8_feed 26 rfl) (fun Pc h => okX7_append _ _ Pc h) h (fun σ14 e15 h => ?_)
    try dsimp only at h
    refine X_aload_n 0 rfl (dk KX8_feed 27 rfl) ?_
    refine Y_getR 1 fX8_18 (Nat.le_of_ble_eq_true rfl) rfl rfl (dk KX8_feed 28 rfl) ?_
    refine Y_getI fX8_58 (Nat.le_of_ble_eq_true rfl) rfl (dk KX8_feed 29 rfl) ?_
    exact Y_iret (dk KX8_feed 30 rfl) rfl h
  · have h := hO_f hc h
    refine X_iconst (dk KX8_feed 5 rfl) (-1) (by decide) ?_
    exact Y_iret (dk KX8_feed 6 rfl) rfl h

def fX8_back (a1 : Int32) (σ : PS) : Option (Int32 × PS) := (fX8_isWithin a1 0 (gi σ 1 1) σ).bind (fun qy1 => (fun (y1 : Int32) (σ2 : PS) => (if y1 = 0 then some ((-1), σ2) else some ((gi (sI σ2 1 1 ((gi σ2 1 1) - a1)) 1 1), (sI σ2 1 1 ((gi σ2 1 1) - a1))))) qy1.1 qy1.2)
set_option maxRecDepth 100000 in
set_option maxHeartbeats 4000000 in
theorem okX8_back (a1 : Int32) (σ : PS) (P : Int32 × PS → Prop) (h : hO (fX8_back a1 σ) P) : CON g mX8_back 1 0 0 [.ref 0, .int a1] (HP σ) (pI P) := by
  refine CON.of (by decide) (by simp [lg_sl, Value.category]) ?_
  show X g _ _ _ _ _ 0 [(0, .ref 0), (1, .int a1)] [] _
  unfold fX8_back at h
  refine X_iload_n 1 rfl (dk KX8_back 0 rfl) ?_
  refine X_iconst (dk KX8_back 1 rfl) 0 (by decide) ?_
  refine X_aload_n 0 rfl (dk KX8_back 2 rfl) ?_
  refine Y_getR 1 fX8_18 (Nat.le_of_ble_eq_true rfl) rfl rfl (dk KX8_back 3 rfl) ?_
  refine Y_getI fX8_58 (Nat.le_of_ble_eq_true rfl) rfl (dk KX8_back 4 rfl) ?_
  refine Y_callSI wX8_66 [.int a1, .int 0, .int (gi σ 1 1)] [] rfl rfl (Nat.le_of_ble_eq_true rfl) (Nat.le_of_ble_eq_true rfl) (dk KX8_back 5 rfl) (fun Pc h => okX8_isWithin _ _ _ _ Pc h) h (fun y1 σ2 e3 h => ?_)
  try dsimp only at h
  refine X_if_ne 17 (dk KX8_back 6 rfl) (by decide) (fun hc => ?_) (fun hc => ?_)
  · have h := hO_f hc h
    refine X_aload_n 0 rfl (dk KX8_back 9 rfl) ?_
    refine Y_getR 1 fX8_18 (Nat.le_of_ble_eq_true rfl) rfl rfl (dk KX8_back 10 rfl) ?_
    refine X_dup (dk KX8_back 11 rfl) rfl ?_
    refine Y_getI fX8_58 (Nat.le_of_ble_eq_true rfl) rfl (dk KX8_back 12 rfl) ?_
    refine X_iload_n 1 rfl (dk KX8_back 13 rfl) ?_
    refine X_isub (dk KX8_back 14 rfl) ?_
    refine Y_putI fX8_58 rfl (Nat.le_of_ble_eq_true rfl) rfl (dk KX8_back 15 rfl) ?_
    refine X_aload_n 0 rfl (dk KX8_back 16 rfl) ?_
    refine Y_getR 1 fX8_18 (Nat.le_of_ble_eq_true rfl) rfl rfl (dk KX8_back 17 rfl) ?_
    refine Y_getI fX8_58 (Nat.le_of_ble_eq_true rfl) rfl (dk KX8_back 18 rfl) ?_
    exact Y_iret (dk KX8_back 19 rfl) rfl h
  · have h := hO_t hc h
    refine X_iconst (dk KX8_back 7 rfl) (-1) (by decide) ?_
    exact Y_iret (dk KX8_back 8 rfl) rfl h

def fX8_read  (σ : PS) : Option (Int32 × PS) := gd (isBk (drO σ)) ((fX4_parse (drO σ) σ).bind (fun qy2 => (fun (y2 : Int32) (σ3 : PS) => (if y2 = 0 then gd (isBk (bkO (sI σ3 1 1 0))) (gd (isBk (drO (sI σ3 1 1 0))) ((fX1_forget (sD (sB (sI σ3 1 1 0) (drO (sI σ3 1 1 0))) (bkO (sI σ3 1 1 0)))).bind (fun σ8 => some (y2, σ8)))) else some (y2, (sI σ3 1 1 0)))) qy2.1 qy2.2))
set_option maxRecDepth 100000 in
set_option maxHeartbeats 4000000 in
theorem okX8_read  (σ : PS) (P : Int32 × PS → Prop) (h : hO (fX8_read  σ) P) : CON g mX8_read 9 0 0 [.ref 0] (HP σ) (pI P) := by
  refine CON.of (by decide) (by simp [lg_sl, Value.category]) ?_
  show X g _ _ _ _ _ 0 [(0, .ref 0)] [] _
  unfold fX8_read at h
  refine X_aload_n 0 rfl (dk KX8_read 0 rfl) ?_
  refine Y_getR 38 fX8_27 (Nat.le_of_ble_eq_true rfl) rfl rfl (dk KX8_read 1 rfl) ?_
  refine X_aload_n 0 rfl (dk KX8_read 2 rfl) ?_
  refine Y_getR (drO σ) fX8_55 (Nat.le_of_ble_eq_true rfl) rfl rfl (dk KX8_read 3 rfl) ?_
  refine Y_guard h (fun hb1 h => ?_)
  refine Y_callVI wX8_70 (Nat.le_of_ble_eq_true rfl) rfl [.ref (drO σ)] [] rfl rfl (Nat.le_of_ble_eq_true rfl) (Nat.le_of_ble_eq_true rfl) (dk KX8_read 4 rfl) (fun Pc h => okX4_parse hb1 _ Pc h) h (fun y2 σ3 e4 h => ?_)
  try dsimp only at h
  refine X_istore_n [(1, .int y2), (0, .ref 0)] (dk KX8_read 5 rfl) (by decide) rfl ?_
  refine X_aload_n 1 rfl (dk KX8_read 6 rfl) ?_
  refine Y_getR 1 fX8_18 (Nat.le_of_ble_eq_true rfl) rfl rfl (dk KX8_read 7 rfl) ?_
  refine X_iconst (dk KX8_read 8 rfl) 0 (by decide) ?_
  refine Y_putI fX8_58 rfl (Nat.le_of_ble_eq_true rfl) rfl (dk KX8_read 9 rfl) ?_
  refine X_iload_n 0 rfl (dk KX8_read 10 rfl) ?_
  refine X_if_ne 49 (dk KX8_read 11 rfl) (by decide) (fun hc => ?_) (fun hc => ?_)
  · have h := hO_f hc h
    refine X_iload_n 0 rfl (dk KX8_read 25 rfl) ?_
    exact Y_iret (dk KX8_read 26 rfl) rfl h
  · have h := hO_t hc h
    refine X_aload_n 1 rfl (dk KX8_read 12 rfl) ?_
    refine Y_getR (bkO (sI σ3 1 1 0)) fX8_51 (Nat.le_of_ble_eq_true rfl) rfl rfl (dk KX8_read 13 rfl) ?_
    refine Y_guard h (fun hb5 h => ?_)
    refine X_astore_n [(2, .ref (bkO (sI σ3 1 1 0))), (1, .int y2), (0, .ref 0)] (dk KX8_read 14 rfl) (by decide) rfl ?_
    refine X_aload_n 2 rfl (dk KX8_read 15 rfl) ?_
    refine X_aload_n 2 rfl (dk KX8_read 16 rfl) ?_
    refine Y_getR (drO (sI σ3 1 1 0)) fX8_55 (Nat.le_of_ble_eq_true rfl) rfl rfl (dk KX8_read 17 rfl) ?_
    refine Y_guard h (fun hb6 h => ?_)
    refine Y_putB fX8_51 (dk KX8_read 18 rfl) ?_
    refine X_aload_n 2 rfl (dk KX8_read 19 rfl) ?_
    refine X_aload_n 0 rfl (dk KX8_read 20 rfl) ?_
    refine Y_putD fX8_55 (dk KX8_read 21 rfl) ?_
    refine X_aload_n 2 rfl (dk KX8_read 22 rfl) ?_
    refine Y_getR 41 fX8_44 (Nat.le_of_ble_eq_true rfl) rfl rfl (dk KX8_read 23 rfl) ?_
    refine Y_callVV wX8_74 (Nat.le_of_ble_eq_true rfl) rfl [] [] rfl rfl (Nat.le_of_ble_eq_true rfl) (Nat.le_of_ble_eq_true rfl) (dk KX8_read 24 rfl) (fun Pc h => okX1_forget _ Pc h) h (fun σ8 e9 h => ?_)
    try dsimp only at h
    refine X_iload_n 1 rfl (dk KX8_read 25 rfl) ?_
    exact Y_iret (dk KX8_read 26 rfl) rfl h

def fX8_place  (σ : PS) : Option (Int32 × PS) := some ((gi σ 38 7), σ)
set_option maxRecDepth 100000 in
set_option maxHeartbeats 4000000 in
theorem okX8_place  (σ : PS) (P : Int32 × PS → Prop) (h : hO (fX8_place  σ) P) : CON g mX8_place 0 0 0 [.ref 0] (HP σ) (pI P) := by
  refine CON.of (by decide) (by simp [lg_sl, Value.category]) ?_
  show X g _ _ _ _ _ 0 [(0, .ref 0)] [] _
  unfold fX8_place at h
  refine X_aload_n 0 rfl (dk KX8_place 0 rfl) ?_
  refine Y_getR 38 fX8_27 (Nat.le_of_ble_eq_true rfl) rfl rfl (dk KX8_place 1 rfl) ?_
  refine Y_getI fX8_77 (Nat.le_of_ble_eq_true rfl) rfl (dk KX8_place 2 rfl) ?_
  exact Y_iret (dk KX8_place 3 rfl) rfl h

def fX8_inn (a1 : Int32) (a2 : Int32) (a3 : Int32) (σ : PS) : Option (Int32 × PS) := (if 8 ≤ (gi σ 3 0) then some ((-1), σ) else (fX8_isLord a1 σ).bind (fun qy1 => (fun (y1 : Int32) (σ2 : PS) => (if y1 = 0 then some ((-1), σ2) else (fX8_isWithin a2 0 60 σ2).bind (fun qy4 => (fun (y4 : Int32) (σ5 : PS) => (if y4 = 0 then some ((-1), σ5) else (fX8_isWithin a3 0 60 σ5).bind (fun qy7 => (fun (y7 : Int32) (σ8 : PS) => (if y7 = 0 then some ((-1), σ8) else gd (inb (gi σ 3 0) 8) (gd (inb (gi σ 3 0) 8) (gd (inb (gi σ 3 0) 8) ((fX1_forget (sI (sI (sI (sI σ8 4 ((gi σ 3 0) : Int32).toNatClampNeg a1) 5 ((gi σ 3 0) : Int32).toNatClampNeg a2) 6 ((gi σ 3 0) : Int32).toNatClampNeg a3) 3 0 ((gi σ 3 0) + 1))).bind (fun σ14 => some ((gi σ 3 0), σ14))))))) qy7.1 qy7.2))) qy4.1 qy4.2))) qy1.1 qy1.2))
set_option maxRecDepth 100000 in
set_option maxHeartbeats 4000000 in
theorem okX8_inn (a1 : Int32) (a2 : Int32) (a3 : Int32) (σ : PS) (P : Int32 × PS → Prop) (h : hO (fX8_inn a1 a2 a3 σ) P) : CON g mX8_inn 2 0 0 [.ref 0, .int a1, .int a2, .int a3] (HP σ) (pI P) := by
  refine CON.of (by decide) (by simp [lg_sl, Value.category]) ?_
  show X g _ _ _ _ _ 0 [(0, .ref 0), (1, .int a1), (2, .int a2), (3, .int a3)] [] _
  unfold fX8_inn at h
  refine X_aload_n 0 rfl (dk KX8_inn 0 rfl) ?_
  refine Y_getR 3 fX8_31 (Nat.le_of_ble_eq_true rfl) rfl rfl (dk KX8_inn 1 rfl) ?_
  refine Y_getI fX8_80 (Nat.le_of_ble_eq_true rfl) rfl (dk KX8_inn 2 rfl) ?_
  refine X_istore [(4, .int (gi σ 3 0)), (0, .ref 0), (1, .int a1), (2, .int a2), (3, .int a3)] (dk KX8_inn 3 rfl) (by decide) rfl ?_
  refine X_iload 0 rfl (dk KX8_inn 4 rfl) ?_
  refine X_bipush (dk KX8_inn 5 rfl) 8 (by decide) ?_
  refine X_icmp_ge 43 (dk KX8_inn 6 rfl) (by decide) (fun hc => ?_) (fun hc => ?_)
  · have h := hO_t hc h
    refine X_iconst (dk KX8_inn 20 rfl) (-1) (by decide) ?_
    exact Y_iret (dk KX8_inn 21 rfl) rfl h
  · have h := hO_f hc h
    refine X_iload_n 2 rfl (dk KX8_inn 7 rfl) ?_
    refine Y_callSI wX8_83 [.int a1] [] rfl rfl (Nat.le_of_ble_eq_true rfl) (Nat.le_of_ble_eq_true rfl) (dk KX8_inn 8 rfl) (fun Pc h => okX8_isLord _ _ Pc h) h (fun y1 σ2 e3 h => ?_)
    try dsimp only at h
    refine X_if_eq 43 (dk KX8_inn 9 rfl) (by decide) (fun hc => ?_) (fun hc => ?_)
    · have h := hO_t hc h
      refine X_iconst (dk KX8_inn 20 rfl) (-1) (by decide) ?_
      exact Y_iret (dk KX8_inn 21 rfl) rfl h
    · have h := hO_f hc h
      refine X_iload_n 3 rfl (dk KX8_inn 10 rfl) ?_
      refine X_iconst (dk KX8_inn 11 rfl) 0 (by decide) ?_
      refine X_bipush (dk KX8_inn 12 rfl) 60 (by decide) ?_
      refine Y_callSI wX8_66 [.int a2, .int 0, .int 60] [] rfl rfl (Nat.le_of_ble_eq_true rfl) (Nat.le_of_ble_eq_true rfl) (dk KX8_inn 13 rfl) (fun Pc h => okX8_isWithin _ _ _ _ Pc h) h (fun y4 σ5 e6 h => ?_)
      try dsimp only at h
      refine X_if_eq 43 (dk KX8_inn 14 rfl) (by decide) (fun hc => ?_) (fun hc => ?_)
      · have h := hO_t hc h
        refine X_iconst (dk KX8_inn 20 rfl) (-1) (by decide) ?_
        exact Y_iret (dk KX8_inn 21 rfl) rfl h
      · have h := hO_f hc h
        refine X_iload_n 4 rfl (dk KX8_inn 15 rfl) ?_
        refine X_iconst (dk KX8_inn 16 rfl) 0 (by decide) ?_
        refine X_bipush (dk KX8_inn 17 rfl) 60 (by decide) ?_
        refine Y_callSI wX8_66 [.int a3, .int 0, .int 60] [] rfl rfl (Nat.le_of_ble_eq_true rfl) (Nat.le_of_ble_eq_true rfl) (dk KX8_inn 18 rfl) (fun Pc h => okX8_isWithin _ _ _ _ Pc h) h (fun y7 σ8 e9 h => ?_)
        try dsimp only at h
        refine X_if_ne 45 (dk KX8_inn 19 rfl) (by decide) (fun hc => ?_) (fun hc => ?_)
        · have h := hO_f hc h
          refine X_aload_n 1 rfl (dk KX8_inn 22 rfl) ?_
          refine Y_getR 3 fX8_31 (Nat.le_of_ble_eq_true rfl) rfl rfl (dk KX8_inn 23 rfl) ?_
          refine Y_getR 4 fX8_87 (Nat.le_of_ble_eq_true rfl) rfl rfl (dk KX8_inn 24 rfl) ?_
          refine X_iload 0 rfl (dk KX8_inn 25 rfl) ?_
          refine X_iload_n 2 rfl (dk KX8_inn 26 rfl) ?_
          refine Y_iast (Nat.le_of_ble_eq_true rfl) rfl (dk KX8_inn 27 rfl) h (fun hi10 h => ?_)
          refine X_aload_n 1 rfl (dk KX8_inn 28 rfl) ?_
          refine Y_getR 3 fX8_31 (Nat.le_of_ble_eq_true rfl) rfl rfl (dk KX8_inn 29 rfl) ?_
          refine Y_getR 5 fX8_91 (Nat.le_of_ble_eq_true rfl) rfl rfl (dk KX8_inn 30 rfl) ?_
          refine X_iload 0 rfl (dk KX8_inn 31 rfl) ?_
          refine X_iload_n 3 rfl (dk KX8_inn 32 rfl) ?_
          refine Y_iast (Nat.le_of_ble_eq_true rfl) rfl (dk KX8_inn 33 rfl) h (fun hi11 h => ?_)
          refine X_aload_n 1 rfl (dk KX8_inn 34 rfl) ?_
          refine Y_getR 3 fX8_31 (Nat.le_of_ble_eq_true rfl) rfl rfl (dk KX8_inn 35 rfl) ?_
          refine Y_getR 6 fX8_94 (Nat.le_of_ble_eq_true rfl) rfl rfl (dk KX8_inn 36 rfl) ?_
          refine X_iload 0 rfl (dk KX8_inn 37 rfl) ?_
          refine X_iload_n 4 rfl (dk KX8_inn 38 rfl) ?_
          refine Y_iast (Nat.le_of_ble_eq_true rfl) rfl (dk KX8_inn 39 rfl) h (fun hi12 h => ?_)
          refine X_aload_n 1 rfl (dk KX8_inn 40 rfl) ?_
          refine Y_getR 3 fX8_31 (Nat.le_of_ble_eq_true rfl) rfl rfl (dk KX8_inn 41 rfl) ?_
          refine X_iload 0 rfl (dk KX8_inn 42 rfl) ?_
          refine X_iconst (dk KX8_inn 43 rfl) 1 (by decide) ?_
          refine X_iadd (dk KX8_inn 44 rfl) ?_
          refine Y_putI fX8_80 rfl (Nat.le_of_ble_eq_true rfl) rfl (dk KX8_inn 45 rfl) ?_
          refine X_aload_n 1 rfl (dk KX8_inn 46 rfl) ?_
          refine Y_getR 41 fX8_44 (Nat.le_of_ble_eq_true rfl) rfl rfl (dk KX8_inn 47 rfl) ?_
          refine Y_callVV wX8_74 (Nat.le_of_ble_eq_true rfl) rfl [] [] rfl rfl (Nat.le_of_ble_eq_true rfl) (Nat.le_of_ble_eq_true rfl) (dk KX8_inn 48 rfl) (fun Pc h => okX1_forget _ Pc h) h (fun σ14 e15 h => ?_)
          try dsimp only at h
          refine X_iload 0 rfl (dk KX8_inn 49 rfl) ?_
          exact Y_iret (dk KX8_inn 50 rfl) rfl h
        · have h := hO_t hc h
          refine X_iconst (dk KX8_inn 20 rfl) (-1) (by decide) ?_
          exact Y_iret (dk KX8_inn 21 rfl) rfl h

def fX8_room (a1 : Int32) (a2 : Int32) (σ : PS) : Option (Int32 × PS) := (fX2_hasInn a1 σ).bind (fun qy1 => (fun (y1 : Int32) (σ2 : PS) => (if y1 = 0 then some ((-1), σ2) else (fX8_isWithin a2 1 20 σ2).bind (fun qy4 => (fun (y4 : Int32) (σ5 : PS) => (if y4 = 0 then some ((-1), σ5) else gd (inb a1 8) ((if (gi σ5 7 (a1 : Int32).toNatClampNeg) < 3 then gd (inb a1 8) (gd (inb (gi σ5 7 (a1 : Int32).toNatClampNeg) 3) (gd (inb a1 8) ((fX1_forget (sI (sI σ5 (rw_ 8 a1) ((gi σ5 7 (a1 : Int32).toNatClampNeg) : Int32).toNatClampNeg a2) 7 (a1 : Int32).toNatClampNeg ((gi σ5 7 (a1 : Int32).toNatClampNeg) + 1))).bind (fun σ12 => some ((gi σ5 7 (a1 : Int32).toNatClampNeg), σ12))))) else some ((-1), σ5))))) qy4.1 qy4.2))) qy1.1 qy1.2)
set_option maxRecDepth 100000 in
set_option maxHeartbeats 4000000 in
theorem okX8_room (a1 : Int32) (a2 : Int32) (σ : PS) (P : Int32 × PS → Prop) (h : hO (fX8_room a1 a2 σ) P) : CON g mX8_room 2 0 0 [.ref 0, .int a1, .int a2] (HP σ) (pI P) := by
  refine CON.of (by decide) (by simp [lg_sl, Value.category]) ?_
  show X g _ _ _ _ _ 0 [(0, .ref 0), (1, .int a1), (2, .int a2)] [] _
  unfold fX8_room at h
  refine X_aload_n 0 rfl (dk KX8_room 0 rfl) ?_
  refine Y_getR 3 fX8_31 (Nat.le_of_ble_eq_true rfl) rfl rfl (dk KX8_room 1 rfl) ?_
  refine X_iload_n 1 rfl (dk KX8_room 2 rfl) ?_
  refine Y_callVI wX8_97 (Nat.le_of_ble_eq_true rfl) rfl [.int a1] [] rfl rfl (Nat.le_of_ble_eq_true rfl) (Nat.le_of_ble_eq_true rfl) (dk KX8_room 3 rfl) (fun Pc h => okX2_hasInn _ _ Pc h) h (fun y1 σ2 e3 h => ?_)
  try dsimp only at h
  refine X_if_eq 21 (dk KX8_room 4 rfl) (by decide) (fun hc => ?_) (fun hc => ?_)
  · have h := hO_t hc h
    refine X_iconst (dk KX8_room 10 rfl) (-1) (by decide) ?_
    exact Y_iret (dk KX8_room 11 rfl) rfl h
  · have h := hO_f hc h
    refine X_iload_n 2 rfl (dk KX8_room 5 rfl) ?_
    refine X_iconst (dk KX8_room 6 rfl) 1 (by decide) ?_
    refine X_bipush (dk KX8_room 7 rfl) 20 (by decide) ?_
    refine Y_callSI wX8_66 [.int a2, .int 1, .int 20] [] rfl rfl (Nat.le_of_ble_eq_true rfl) (Nat.le_of_ble_eq_true rfl) (dk KX8_room 8 rfl) (fun Pc h => okX8_isWithin _ _ _ _ Pc h) h (fun y4 σ5 e6 h => ?_)
    try dsimp only at h
    refine X_if_ne 23 (dk KX8_room 9 rfl) (by decide) (fun hc => ?_) (fun hc => ?_)
    · have h := hO_f hc h
      refine X_aload_n 0 rfl (dk KX8_room 12 rfl) ?_
      refine Y_getR 3 fX8_31 (Nat.le_of_ble_eq_true rfl) rfl rfl (dk KX8_room 13 rfl) ?_
      refine Y_getR 7 fX8_100 (Nat.le_of_ble_eq_true rfl) rfl rfl (dk KX8_room 14 rfl) ?_
      refine X_iload_n 1 rfl (dk KX8_room 15 rfl) ?_
      refine Y_iald (Nat.le_of_ble_eq_true rfl) rfl (dk KX8_room 16 rfl) h (fun hi7 h => ?_)
      refine X_istore_n [(3, .int (gi σ5 7 (a1 : Int32).toNatClampNeg)), (0, .ref 0), (1, .int a1), (2, .int a2)] (dk KX8_room 17 rfl) (by decide) rfl ?_
      refine X_iload_n 0 rfl (dk KX8_room 18 rfl) ?_
      refine X_iconst (dk KX8_room 19 rfl) 3 (by decide) ?_
      refine X_icmp_lt 40 (dk KX8_room 20 rfl) (by decide) (fun hc => ?_) (fun hc => ?_)
      · have h := hO_t hc h
        refine X_aload_n 1 rfl (dk KX8_room 23 rfl) ?_
        refine Y_getR 3 fX8_31 (Nat.le_of_ble_eq_true rfl) rfl rfl (dk KX8_room 24 rfl) ?_
        refine Y_getR 8 fX8_103 (Nat.le_of_ble_eq_true rfl) rfl rfl (dk KX8_room 25 rfl) ?_
        refine X_iload_n 2 rfl (dk KX8_room 26 rfl) ?_
        refine Y_aald (rw_ 8 a1) (Nat.le_of_ble_eq_true rfl) rfl (gr8_rf _ _) (dk KX8_room 27 rfl) h (fun hi8 h => ?_)
        refine X_iload_n 0 rfl (dk KX8_room 28 rfl) ?_
        refine X_iload_n 3 rfl (dk KX8_room 29 rfl) ?_
        refine Y_iast (gr8_lt hi8) (gr8_ob hi8) (dk KX8_room 30 rfl) h (fun hi9 h => ?_)
        refine X_aload_n 1 rfl (dk KX8_room 31 rfl) ?_
        refine Y_getR 3 fX8_31 (Nat.le_of_ble_eq_true rfl) rfl rfl (dk KX8_room 32 rfl) ?_
        refine Y_getR 7 fX8_100 (Nat.le_of_ble_eq_true rfl) rfl rfl (dk KX8_room 33 rfl) ?_
        refine X_iload_n 2 rfl (dk KX8_room 34 rfl) ?_
        refine X_iload_n 0 rfl (dk KX8_room 35 rfl) ?_
        refine X_iconst (dk KX8_room 36 rfl) 1 (by decide) ?_
        refine X_iadd (dk KX8_room 37 rfl) ?_
        refine Y_iast (Nat.le_of_ble_eq_true rfl) rfl (dk KX8_room 38 rfl) h (fun hi10 h => ?_)
        refine X_aload_n 1 rfl (dk KX8_room 39 rfl) ?_
        refine Y_getR 41 fX8_44 (Nat.le_of_ble_eq_true rfl) rfl rfl (dk KX8_room 40 rfl) ?_
        refine Y_callVV wX8_74 (Nat.le_of_ble_eq_true rfl) rfl [] [] rfl rfl (Nat.le_of_ble_eq_true rfl) (Nat.le_of_ble_eq_true rfl) (dk KX8_room 41 rfl) (fun Pc h => okX1_forget _ Pc h) h (fun σ12 e13 h => ?_)
        try dsimp only at h
        refine X_iload_n 0 rfl (dk KX8_room 42 rfl) ?_
        exact Y_iret (dk KX8_room 43 rfl) rfl h
      · have h := hO_f hc h
        refine X_iconst (dk KX8_room 21 rfl) (-1) (by decide) ?_
        exact Y_iret (dk KX8_room 22 rfl) rfl h
    · have h := hO_t hc h
      refine X_iconst (dk KX8_room 10 rfl) (-1) (by decide) ?_
      exact Y_iret (dk KX8_room 11 rfl) rfl h

def fX8_caravan_89 (x1 : Int32) (x2 : Int32) (x3 : Int32) (x4 : Int32) (x5 : Int32) (x6 : Int32) (x7 : Int32) (x8 : Int32) (s0 : Int32) (σ : PS) : Option (Int32 × PS) := (if 6 ≤ x7 then some ((-1), σ) else (if x8 = 0 then some ((-1), σ) else (if s0 = 0 then some ((-1), σ) else gd (inb x7 6) (gd (inb x7 6) (gd (inb x7 6) (gd (inb x7 6) (gd (inb x7 6) (gd (inb x7 6) ((fX1_forget (sI (sI (sI (sI (sI (sI (sI σ 17 (x7 : Int32).toNatClampNeg x1) 18 (x7 : Int32).toNatClampNeg x2) 19 (x7 : Int32).toNatClampNeg x3) 20 (x7 : Int32).toNatClampNeg x4) 21 (x7 : Int32).toNatClampNeg x5) 22 (x7 : Int32).toNatClampNeg x6) 3 6 (x7 + 1))).bind (fun σ26 => some (x7, σ26)))))))))))
set_option maxRecDepth 100000 in
set_option maxHeartbeats 4000000 in
theorem tX8_caravan_89 {P : Int32 × PS → Prop} (x1 : Int32) (x2 : Int32) (x3 : Int32) (x4 : Int32) (x5 : Int32) (x6 : Int32) (x7 : Int32) (x8 : Int32) (s0 : Int32) (σ : PS) (h : hO (fX8_caravan_89 x1 x2 x3 x4 x5 x6 x7 x8 s0 σ) P) : X g mX8_caravan 2 0 0 (pI P) 89 [(0, .ref 0), (1, .int x1), (2, .int x2), (3, .int x3), (4, .int x4), (5, .int x5), (6, .int x6), (7, .int x7), (8, .int x8)] [.int s0] (HP σ) := by
  unfold fX8_caravan_89 at h
  refine X_istore [(9, .int s0), (0, .ref 0), (1, .int x1), (2, .int x2), (3, .int x3), (4, .int x4), (5, .int x5), (6, .int x6), (7, .int x7), (8, .int x8)] (dk KX8_caravan 42 rfl) (by decide) rfl ?_
  refine X_iload 8 rfl (dk KX8_caravan 43 rfl) ?_
  refine X_bipush (dk KX8_caravan 44 rfl) 6 (by decide) ?_
  refine X_icmp_ge 108 (dk KX8_caravan 45 rfl) (by decide) (fun hc => ?_) (fun hc => ?_)
  · have h := hO_t hc h
    refine X_iconst (dk KX8_caravan 50 rfl) (-1) (by decide) ?_
    exact Y_iret (dk KX8_caravan 51 rfl) rfl h
  · have h := hO_f hc h
    refine X_iload 9 rfl (dk KX8_caravan 46 rfl) ?_
    refine X_if_eq 108 (dk KX8_caravan 47 rfl) (by decide) (fun hc => ?_) (fun hc => ?_)
    · have h := hO_t hc h
      refine X_iconst (dk KX8_caravan 50 rfl) (-1) (by decide) ?_
      exact Y_iret (dk KX8_caravan 51 rfl) rfl h
    · have h := hO_f hc h
      refine X_iload 0 rfl (dk KX8_caravan 48 rfl) ?_
      refine X_if_ne 110 (dk KX8_caravan 49 rfl) (by decide) (fun hc => ?_) (fun hc => ?_)
      · have h := hO_f hc h
        refine X_aload_n 1 rfl (dk KX8_caravan 52 rfl) ?_
        refine Y_getR 3 fX8_31 (Nat.le_of_ble_eq_true rfl) rfl rfl (dk KX8_caravan 53 rfl) ?_
        refine Y_getR 17 fX8_113 (Nat.le_of_ble_eq_true rfl) rfl rfl (dk KX8_caravan 54 rfl) ?_
        refine X_iload 8 rfl (dk KX8_caravan 55 rfl) ?_
        refine X_iload_n 2 rfl (dk KX8_caravan 56 rfl) ?_
        refine Y_iast (Nat.le_of_ble_eq_true rfl) rfl (dk KX8_caravan 57 rfl) h (fun hi19 h => ?_)
        refine X_aload_n 1 rfl (dk KX8_caravan 58 rfl) ?_
        refine Y_getR 3 fX8_31 (Nat.le_of_ble_eq_true rfl) rfl rfl (dk KX8_caravan 59 rfl) ?_
        refine Y_getR 18 fX8_116 (Nat.le_of_ble_eq_true rfl) rfl rfl (dk KX8_caravan 60 rfl) ?_
        refine X_iload 8 rfl (dk KX8_caravan 61 rfl) ?_
        refine X_iload_n 3 rfl (dk KX8_caravan 62 rfl) ?_
        refine Y_iast (Nat.le_of_ble_eq_true rfl) rfl (dk KX8_caravan 63 rfl) h (fun hi20 h => ?_)
        refine X_aload_n 1 rfl (dk KX8_caravan 64 rfl) ?_
        refine Y_getR 3 fX8_31 (Nat.le_of_ble_eq_true rfl) rfl rfl (dk KX8_caravan 65 rfl) ?_
        refine Y_getR 19 fX8_119 (Nat.le_of_ble_eq_true rfl) rfl rfl (dk KX8_caravan 66 rfl) ?_
        refine X_iload 8 rfl (dk KX8_caravan 67 rfl) ?_
        refine X_iload_n 4 rfl (dk KX8_caravan 68 rfl) ?_
        refine Y_iast (Nat.le_of_ble_eq_true rfl) rfl (dk KX8_caravan 69 rfl) h (fun hi21 h => ?_)
        refine X_aload_n 1 rfl (dk KX8_caravan 70 rfl) ?_
        refine Y_getR 3 fX8_31 (Nat.le_of_ble_eq_true rfl) rfl rfl (dk KX8_caravan 71 rfl) ?_
        refine Y_getR 20 fX8_122 (Nat.le_of_ble_eq_true rfl) rfl rfl (dk KX8_caravan 72 rfl) ?_
        refine X_iload 8 rfl (dk KX8_caravan 73 rfl) ?_
        refine X_iload 5 rfl (dk KX8_caravan 74 rfl) ?_
        refine Y_iast (Nat.le_of_ble_eq_true rfl) rfl (dk KX8_caravan 75 rfl) h (fun hi22 h => ?_)
        refine X_aload_n 1 rfl (dk KX8_caravan 76 rfl) ?_
        refine Y_getR 3 fX8_31 (Nat.le_of_ble_eq_true rfl) rfl rfl (dk KX8_caravan 77 rfl) ?_
        refine Y_getR 21 fX8_125 (Nat.le_of_ble_eq_true rfl) rfl rfl (dk KX8_caravan 78 rfl) ?_
        refine X_iload 8 rfl (dk KX8_caravan 79 rfl) ?_
        refine X_iload 6 rfl (dk KX8_caravan 80 rfl) ?_
        refine Y_iast (Nat.le_of_ble_eq_true rfl) rfl (dk KX8_caravan 81 rfl) h (fun hi23 h => ?_)
        refine X_aload_n 1 rfl (dk KX8_caravan 82 rfl) ?_
        refine Y_getR 3 fX8_31 (Nat.le_of_ble_eq_true rfl) rfl rfl (dk KX8_caravan 83 rfl) ?_
        refine Y_getR 22 fX8_128 (Nat.le_of_ble_eq_true rfl) rfl rfl (dk KX8_caravan 84 rfl) ?_
        refine X_iload 8 rfl (dk KX8_caravan 85 rfl) ?_
        refine X_iload 7 rfl (dk KX8_caravan 86 rfl) ?_
        refine Y_iast (Nat.le_of_ble_eq_true rfl) rfl (dk KX8_caravan 87 rfl) h (fun hi24 h => ?_)
        refine X_aload_n 1 rfl (dk KX8_caravan 88 rfl) ?_
        refine Y_getR 3 fX8_31 (Nat.le_of_ble_eq_true rfl) rfl rfl (dk KX8_caravan 89 rfl) ?_
        refine X_iload 8 rfl (dk KX8_caravan 90 rfl) ?_
        refine X_iconst (dk KX8_caravan 91 rfl) 1 (by decide) ?_
        refine X_iadd (dk KX8_caravan 92 rfl) ?_
        refine Y_putI fX8_107 rfl (Nat.le_of_ble_eq_true rfl) rfl (dk KX8_caravan 93 rfl) ?_
        refine X_aload_n 1 rfl (dk KX8_caravan 94 rfl) ?_
        refine Y_getR 41 fX8_44 (Nat.le_of_ble_eq_true rfl) rfl rfl (dk KX8_caravan 95 rfl) ?_
        refine Y_callVV wX8_74 (Nat.le_of_ble_eq_true rfl) rfl [] [] rfl rfl (Nat.le_of_ble_eq_true rfl) (Nat.le_of_ble_eq_true rfl) (dk KX8_caravan 96 rfl) (fun Pc h => okX1_forget _ Pc h) h (fun σ26 e27 h => ?_)
        try dsimp only at h
        refine X_iload 8 rfl (dk KX8_caravan 97 rfl) ?_
        exact Y_iret (dk KX8_caravan 98 rfl) rfl h
      · have h := hO_t hc h
        refine X_iconst (dk KX8_caravan 50 rfl) (-1) (by decide) ?_
        exact Y_iret (dk KX8_caravan 51 rfl) rfl h
def fX8_caravan_88 (x1 : Int32) (x2 : Int32) (x3 : Int32) (x4 : Int32) (x5 : Int32) (x6 : Int32) (x7 : Int32) (x8 : Int32) (σ : PS) : Option (Int32 × PS) := fX8_caravan_89 x1 x2 x3 x4 x5 x6 x7 x8 0 σ
set_option maxRecDepth 100000 in
set_option maxHeartbeats 4000000 in
theorem tX8_caravan_88 {P : Int32 × PS → Prop} (x1 : Int32) (x2 : Int32) (x3 : Int32) (x4 : Int32) (x5 : Int32) (x6 : Int32) (x7 : Int32) (x8 : Int32) (σ : PS) (h : hO (fX8_caravan_88 x1 x2 x3 x4 x5 x6 x7 x8 σ) P) : X g mX8_caravan 2 0 0 (pI P) 88 [(0, .ref 0), (1, .int x1), (2, .int x2), (3, .int x3), (4, .int x4), (5, .int x5), (6, .int x6), (7, .int x7), (8, .int x8)] [] (HP σ) := by
  unfold fX8_caravan_88 at h
  refine X_iconst (dk KX8_caravan 41 rfl) 0 (by decide) ?_
  exact tX8_caravan_89 x1 x2 x3 x4 x5 x6 x7 x8 0 σ h
def fX8_caravan_43 (x1 : Int32) (x2 : Int32) (x3 : Int32) (x4 : Int32) (x5 : Int32) (x6 : Int32) (x7 : Int32) (s0 : Int32) (σ : PS) : Option (Int32 × PS) := (fX2_hasInn x4 σ).bind (fun qy10 => (fun (y10 : Int32) (σ11 : PS) => (if y10 = 0 then fX8_caravan_88 x1 x2 x3 x4 x5 x6 x7 s0 σ11 else (fX2_hasInn x5 σ11).bind (fun qy13 => (fun (y13 : Int32) (σ14 : PS) => (if y13 = 0 then fX8_caravan_88 x1 x2 x3 x4 x5 x6 x7 s0 σ14 else (if x4 = x5 then fX8_caravan_88 x1 x2 x3 x4 x5 x6 x7 s0 σ14 else (fX8_isDay x6 σ14).bind (fun qy16 => (fun (y16 : Int32) (σ17 : PS) => (if y16 = 0 then fX8_caravan_88 x1 x2 x3 x4 x5 x6 x7 s0 σ17 else fX8_caravan_89 x1 x2 x3 x4 x5 x6 x7 s0 1 σ17)) qy16.1 qy16.2)))) qy13.1 qy13.2))) qy10.1 qy10.2)
set_option maxRecDepth 100000 in
set_option maxHeartbeats 4000000 in
theorem tX8_caravan_43 {P : Int32 × PS → Prop} (x1 : Int32) (x2 : Int32) (x3 : Int32) (x4 : Int32) (x5 : Int32) (x6 : Int32) (x7 : Int32) (s0 : Int32) (σ : PS) (h : hO (fX8_caravan_43 x1 x2 x3 x4 x5 x6 x7 s0 σ) P) : X g mX8_caravan 2 0 0 (pI P) 43 [(0, .ref 0), (1, .int x1), (2, .int x2), (3, .int x3), (4, .int x4), (5, .int x5), (6, .int x6), (7, .int x7)] [.int s0] (HP σ) := by
  unfold fX8_caravan_43 at h
  refine X_istore [(8, .int s0), (0, .ref 0), (1, .int x1), (2, .int x2), (3, .int x3), (4, .int x4), (5, .int x5), (6, .int x6), (7, .int x7)] (dk KX8_caravan 22 rfl) (by decide) rfl ?_
  refine X_aload_n 1 rfl (dk KX8_caravan 23 rfl) ?_
  refine Y_getR 3 fX8_31 (Nat.le_of_ble_eq_true rfl) rfl rfl (dk KX8_caravan 24 rfl) ?_
  refine X_iload 5 rfl (dk KX8_caravan 25 rfl) ?_
  refine Y_callVI wX8_97 (Nat.le_of_ble_eq_true rfl) rfl [.int x4] [] rfl rfl (Nat.le_of_ble_eq_true rfl) (Nat.le_of_ble_eq_true rfl) (dk KX8_caravan 26 rfl) (fun Pc h => okX2_hasInn _ _ Pc h) h (fun y10 σ11 e12 h => ?_)
  try dsimp only at h
  refine X_if_eq 88 (dk KX8_caravan 27 rfl) (by decide) (fun hc => ?_) (fun hc => ?_)
  · have h := hO_t hc h
    refine X_sub [(0, .ref 0), (1, .int x1), (2, .int x2), (3, .int x3), (4, .int x4), (5, .int x5), (6, .int x6), (7, .int x7), (8, .int s0)] [1, 2, 3, 4, 5, 6, 7, 8, 0] rfl ?_
    exact tX8_caravan_88 x1 x2 x3 x4 x5 x6 x7 s0 σ11 h
  · have h := hO_f hc h
    refine X_aload_n 1 rfl (dk KX8_caravan 28 rfl) ?_
    refine Y_getR 3 fX8_31 (Nat.le_of_ble_eq_true rfl) rfl rfl (dk KX8_caravan 29 rfl) ?_
    refine X_iload 6 rfl (dk KX8_caravan 30 rfl) ?_
    refine Y_callVI wX8_97 (Nat.le_of_ble_eq_true rfl) rfl [.int x5] [] rfl rfl (Nat.le_of_ble_eq_true rfl) (Nat.le_of_ble_eq_true rfl) (dk KX8_caravan 31 rfl) (fun Pc h => okX2_hasInn _ _ Pc h) h (fun y13 σ14 e15 h => ?_)
    try dsimp only at h
    refine X_if_eq 88 (dk KX8_caravan 32 rfl) (by decide) (fun hc => ?_) (fun hc => ?_)
    · have h := hO_t hc h
      refine X_sub [(0, .ref 0), (1, .int x1), (2, .int x2), (3, .int x3), (4, .int x4), (5, .int x5), (6, .int x6), (7, .int x7), (8, .int s0)] [1, 2, 3, 4, 5, 6, 7, 8, 0] rfl ?_
      exact tX8_caravan_88 x1 x2 x3 x4 x5 x6 x7 s0 σ14 h
    · have h := hO_f hc h
      refine X_iload 5 rfl (dk KX8_caravan 33 rfl) ?_
      refine X_iload 6 rfl (dk KX8_caravan 34 rfl) ?_
      refine X_icmp_eq 88 (dk KX8_caravan 35 rfl) (by decide) (fun hc => ?_) (fun hc => ?_)
      · have h := hO_t hc h
        refine X_sub [(0, .ref 0), (1, .int x1), (2, .int x2), (3, .int x3), (4, .int x4), (5, .int x5), (6, .int x6), (7, .int x7), (8, .int s0)] [1, 2, 3, 4, 5, 6, 7, 8, 0] rfl ?_
        exact tX8_caravan_88 x1 x2 x3 x4 x5 x6 x7 s0 σ14 h
      · have h := hO_f hc h
        refine X_iload 7 rfl (dk KX8_caravan 36 rfl) ?_
        refine Y_callSI wX8_110 [.int x6] [] rfl rfl (Nat.le_of_ble_eq_true rfl) (Nat.le_of_ble_eq_true rfl) (dk KX8_caravan 37 rfl) (fun Pc h => okX8_isDay _ _ Pc h) h (fun y16 σ17 e18 h => ?_)
        try dsimp only at h
        refine X_if_eq 88 (dk KX8_caravan 38 rfl) (by decide) (fun hc => ?_) (fun hc => ?_)
        · have h := hO_t hc h
          refine X_sub [(0, .ref 0), (1, .int x1), (2, .int x2), (3, .int x3), (4, .int x4), (5, .int x5), (6, .int x6), (7, .int x7), (8, .int s0)] [1, 2, 3, 4, 5, 6, 7, 8, 0] rfl ?_
          exact tX8_caravan_88 x1 x2 x3 x4 x5 x6 x7 s0 σ17 h
        · have h := hO_f hc h
          refine X_iconst (dk KX8_caravan 39 rfl) 1 (by decide) ?_
          refine X_goto 89 (dk KX8_caravan 40 rfl) (by decide) ?_
          refine X_sub [(0, .ref 0), (1, .int x1), (2, .int x2), (3, .int x3), (4, .int x4), (5, .int x5), (6, .int x6), (7, .int x7), (8, .int s0)] [1, 2, 3, 4, 5, 6, 7, 8, 0] rfl ?_
          exact tX8_caravan_89 x1 x2 x3 x4 x5 x6 x7 s0 1 σ17 h
def fX8_caravan_42 (x1 : Int32) (x2 : Int32) (x3 : Int32) (x4 : Int32) (x5 : Int32) (x6 : Int32) (x7 : Int32) (σ : PS) : Option (Int32 × PS) := fX8_caravan_43 x1 x2 x3 x4 x5 x6 x7 0 σ
set_option maxRecDepth 100000 in
set_option maxHeartbeats 4000000 in
theorem tX8_caravan_42 {P : Int32 × PS → Prop} (x1 : Int32) (x2 : Int32) (x3 : Int32) (x4 : Int32) (x5 : Int32) (x6 : Int32) (x7 : Int32) (σ : PS) (h : hO (fX8_caravan_42 x1 x2 x3 x4 x5 x6 x7 σ) P) : X g mX8_caravan 2 0 0 (pI P) 42 [(0, .ref 0), (1, .int x1), (2, .int x2), (3, .int x3), (4, .int x4), (5, .int x5), (6, .int x6), (7, .int x7)] [] (HP σ) := by
  unfold fX8_caravan_42 at h
  refine X_iconst (dk KX8_caravan 21 rfl) 0 (by decide) ?_
  exact tX8_caravan_43 x1 x2 x3 x4 x5 x6 x7 0 σ h
def fX8_caravan (a1 : Int32) (a2 : Int32) (a3 : Int32) (a4 : Int32) (a5 : Int32) (a6 : Int32) (σ : PS) : Option (Int32 × PS) := (fX8_isWithin a1 0 3 σ).bind (fun qy1 => (fun (y1 : Int32) (σ2 : PS) => (if y1 = 0 then fX8_caravan_42 a1 a2 a3 a4 a5 a6 (gi σ 3 6) σ2 else (fX8_isWithin a2 1 30 σ2).bind (fun qy4 => (fun (y4 : Int32) (σ5 : PS) => (if y4 = 0 then fX8_caravan_42 a1 a2 a3 a4 a5 a6 (gi σ 3 6) σ5 else (fX8_isWithin a3 1 9 σ5).bind (fun qy7 => (fun (y7 : Int32) (σ8 : PS) => (if y7 = 0 then fX8_caravan_42 a1 a2 a3 a4 a5 a6 (gi σ 3 6) σ8 else fX8_caravan_43 a1 a2 a3 a4 a5 a6 (gi σ 3 6) 1 σ8)) qy7.1 qy7.2))) qy4.1 qy4.2))) qy1.1 qy1.2)
set_option maxRecDepth 100000 in
set_option maxHeartbeats 4000000 in
theorem okX8_caravan (a1 : Int32) (a2 : Int32) (a3 : Int32) (a4 : Int32) (a5 : Int32) (a6 : Int32) (σ : PS) (P : Int32 × PS → Prop) (h : hO (fX8_caravan a1 a2 a3 a4 a5 a6 σ) P) : CON g mX8_caravan 2 0 0 [.ref 0, .int a1, .int a2, .int a3, .int a4, .int a5, .int a6] (HP σ) (pI P) := by
  refine CON.of (by decide) (by simp [lg_sl, Value.category]) ?_
  show X g _ _ _ _ _ 0 [(0, .ref 0), (1, .int a1), (2, .int a2), (3, .int a3), (4, .int a4), (5, .int a5), (6, .int a6)] [] _
  unfold fX8_caravan at h
  refine X_aload_n 0 rfl (dk KX8_caravan 0 rfl) ?_
  refine Y_getR 3 fX8_31 (Nat.le_of_ble_eq_true rfl) rfl rfl (dk KX8_caravan 1 rfl) ?_
  refine Y_getI fX8_107 (Nat.le_of_ble_eq_true rfl) rfl (dk KX8_caravan 2 rfl) ?_
  refine X_istore [(7, .int (gi σ 3 6)), (0, .ref 0), (1, .int a1), (2, .int a2), (3, .int a3), (4, .int a4), (5, .int a5), (6, .int a6)] (dk KX8_caravan 3 rfl) (by decide) rfl ?_
  refine X_iload_n 2 rfl (dk KX8_caravan 4 rfl) ?_
  refine X_iconst (dk KX8_caravan 5 rfl) 0 (by decide) ?_
  refine X_iconst (dk KX8_caravan 6 rfl) 3 (by decide) ?_
  refine Y_callSI wX8_66 [.int a1, .int 0, .int 3] [] rfl rfl (Nat.le_of_ble_eq_true rfl) (Nat.le_of_ble_eq_true rfl) (dk KX8_caravan 7 rfl) (fun Pc h => okX8_isWithin _ _ _ _ Pc h) h (fun y1 σ2 e3 h => ?_)
  try dsimp only at h
  refine X_if_eq 42 (dk KX8_caravan 8 rfl) (by decide) (fun hc => ?_) (fun hc => ?_)
  · have h := hO_t hc h
    refine X_sub [(0, .ref 0), (1, .int a1), (2, .int a2), (3, .int a3), (4, .int a4), (5, .int a5), (6, .int a6), (7, .int (gi σ 3 6))] [1, 2, 3, 4, 5, 6, 7, 0] rfl ?_
    exact tX8_caravan_42 a1 a2 a3 a4 a5 a6 (gi σ 3 6) σ2 h
  · have h := hO_f hc h
    refine X_iload_n 3 rfl (dk KX8_caravan 9 rfl) ?_
    refine X_iconst (dk KX8_caravan 10 rfl) 1 (by decide) ?_
    refine X_bipush (dk KX8_caravan 11 rfl) 30 (by decide) ?_
    refine Y_callSI wX8_66 [.int a2, .int 1, .int 30] [] rfl rfl (Nat.le_of_ble_eq_true rfl) (Nat.le_of_ble_eq_true rfl) (dk KX8_caravan 12 rfl) (fun Pc h => okX8_isWithin _ _ _ _ Pc h) h (fun y4 σ5 e6 h => ?_)
    try dsimp only at h
    refine X_if_eq 42 (dk KX8_caravan 13 rfl) (by decide) (fun hc => ?_) (fun hc => ?_)
    · have h := hO_t hc h
      refine X_sub [(0, .ref 0), (1, .int a1), (2, .int a2), (3, .int a3), (4, .int a4), (5, .int a5), (6, .int a6), (7, .int (gi σ 3 6))] [1, 2, 3, 4, 5, 6, 7, 0] rfl ?_
      exact tX8_caravan_42 a1 a2 a3 a4 a5 a6 (gi σ 3 6) σ5 h
    · have h := hO_f hc h
      refine X_iload_n 4 rfl (dk KX8_caravan 14 rfl) ?_
      refine X_iconst (dk KX8_caravan 15 rfl) 1 (by decide) ?_
      refine X_bipush (dk KX8_caravan 16 rfl) 9 (by decide) ?_
      refine Y_callSI wX8_66 [.int a3, .int 1, .int 9] [] rfl rfl (Nat.le_of_ble_eq_true rfl) (Nat.le_of_ble_eq_true rfl) (dk KX8_caravan 17 rfl) (fun Pc h => okX8_isWithin _ _ _ _ Pc h) h (fun y7 σ8 e9 h => ?_)
      try dsimp only at h
      refine X_if_eq 42 (dk KX8_caravan 18 rfl) (by decide) (fun hc => ?_) (fun hc => ?_)
      · have h := hO_t hc h
        refine X_sub [(0, .ref 0), (1, .int a1), (2, .int a2), (3, .int a3), (4, .int a4), (5, .int a5), (6, .int a6), (7, .int (gi σ 3 6))] [1, 2, 3, 4, 5, 6, 7, 0] rfl ?_
        exact tX8_caravan_42 a1 a2 a3 a4 a5 a6 (gi σ 3 6) σ8 h
      · have h := hO_f hc h
        refine X_iconst (dk KX8_caravan 19 rfl) 1 (by decide) ?_
        refine X_goto 43 (dk KX8_caravan 20 rfl) (by decide) ?_
        refine X_sub [(0, .ref 0), (1, .int a1), (2, .int a2), (3, .int a3), (4, .int a4), (5, .int a5), (6, .int a6), (7, .int (gi σ 3 6))] [1, 2, 3, 4, 5, 6, 7, 0] rfl ?_
        exact tX8_caravan_43 a1 a2 a3 a4 a5 a6 (gi σ 3 6) 1 σ8 h

def fX8_bale (a1 : Int32) (σ : PS) : Option (Int32 × PS) := (if 60 ≤ (gi σ 3 14) then some ((-1), σ) else (fX2_hasCaravan a1 σ).bind (fun qy1 => (fun (y1 : Int32) (σ2 : PS) => (if y1 = 0 then some ((-1), σ2) else gd (inb (gi σ 3 14) 60) (gd (inb a1 6) (gd (inb a1 6) ((fX1_forget (sI (sI (sI σ2 24 ((gi σ 3 14) : Int32).toNatClampNeg a1) 23 (a1 : Int32).toNatClampNeg ((gi (sI σ2 24 ((gi σ 3 14) : Int32).toNatClampNeg a1) 23 (a1 : Int32).toNatClampNeg) + 1)) 3 14 ((gi σ 3 14) + 1))).bind (fun σ8 => some ((gi σ 3 14), σ8))))))) qy1.1 qy1.2))
set_option maxRecDepth 100000 in
set_option maxHeartbeats 4000000 in
theorem okX8_bale (a1 : Int32) (σ : PS) (P : Int32 × PS → Prop) (h : hO (fX8_bale a1 σ) P) : CON g mX8_bale 2 0 0 [.ref 0, .int a1] (HP σ) (pI P) := by
  refine CON.of (by decide) (by simp [lg_sl, Value.category]) ?_
  show X g _ _ _ _ _ 0 [(0, .ref 0), (1, .int a1)] [] _
  unfold fX8_bale at h
  refine X_aload_n 0 rfl (dk KX8_bale 0 rfl) ?_
  refine Y_getR 3 fX8_31 (Nat.le_of_ble_eq_true rfl) rfl rfl (dk KX8_bale 1 rfl) ?_
  refine Y_getI fX8_131 (Nat.le_of_ble_eq_true rfl) rfl (dk KX8_bale 2 rfl) ?_
  refine X_istore_n [(2, .int (gi σ 3 14)), (0, .ref 0), (1, .int a1)] (dk KX8_bale 3 rfl) (by decide) rfl ?_
  refine X_iload_n 0 rfl (dk KX8_bale 4 rfl) ?_
  refine X_bipush (dk KX8_bale 5 rfl) 60 (by decide) ?_
  refine X_icmp_ge 25 (dk KX8_bale 6 rfl) (by decide) (fun hc => ?_) (fun hc => ?_)
  · have h := hO_t hc h
    refine X_iconst (dk KX8_bale 12 rfl) (-1) (by decide) ?_
    exact Y_iret (dk KX8_bale 13 rfl) rfl h
  · have h := hO_f hc h
    refine X_aload_n 1 rfl (dk KX8_bale 7 rfl) ?_
    refine Y_getR 3 fX8_31 (Nat.le_of_ble_eq_true rfl) rfl rfl (dk KX8_bale 8 rfl) ?_
    refine X_iload_n 2 rfl (dk KX8_bale 9 rfl) ?_
    refine Y_callVI wX8_134 (Nat.le_of_ble_eq_true rfl) rfl [.int a1] [] rfl rfl (Nat.le_of_ble_eq_true rfl) (Nat.le_of_ble_eq_true rfl) (dk KX8_bale 10 rfl) (fun Pc h => okX2_hasCaravan _ _ Pc h) h (fun y1 σ2 e3 h => ?_)
    try dsimp only at h
    refine X_if_ne 27 (dk KX8_bale 11 rfl) (by decide) (fun hc => ?_) (fun hc => ?_)
    · have h := hO_f hc h
      refine X_aload_n 1 rfl (dk KX8_bale 14 rfl) ?_
      refine Y_getR 3 fX8_31 (Nat.le_of_ble_eq_true rfl) rfl rfl (dk KX8_bale 15 rfl) ?_
      refine Y_getR 24 fX8_137 (Nat.le_of_ble_eq_true rfl) rfl rfl (dk KX8_bale 16 rfl) ?_
      refine X_iload_n 0 rfl (dk KX8_bale 17 rfl) ?_
      refine X_iload_n 2 rfl (dk KX8_bale 18 rfl) ?_
      refine Y_iast (Nat.le_of_ble_eq_true rfl) rfl (dk KX8_bale 19 rfl) h (fun hi4 h => ?_)
      refine X_aload_n 1 rfl (dk KX8_bale 20 rfl) ?_
      refine Y_getR 3 fX8_31 (Nat.le_of_ble_eq_true rfl) rfl rfl (dk KX8_bale 21 rfl) ?_
      refine Y_getR 23 fX8_140 (Nat.le_of_ble_eq_true rfl) rfl rfl (dk KX8_bale 22 rfl) ?_
      refine X_iload_n 2 rfl (dk KX8_bale 23 rfl) ?_
      refine X_dup2 (dk KX8_bale 24 rfl) rfl rfl ?_
      refine Y_iald (Nat.le_of_ble_eq_true rfl) rfl (dk KX8_bale 25 rfl) h (fun hi5 h => ?_)
      refine X_iconst (dk KX8_bale 26 rfl) 1 (by decide) ?_
      refine X_iadd (dk KX8_bale 27 rfl) ?_
      refine Y_iast (Nat.le_of_ble_eq_true rfl) rfl (dk KX8_bale 28 rfl) h (fun hi6 h => ?_)
      refine X_aload_n 1 rfl (dk KX8_bale 29 rfl) ?_
      refine Y_getR 3 fX8_31 (Nat.le_of_ble_eq_true rfl) rfl rfl (dk KX8_bale 30 rfl) ?_
      refine X_iload_n 0 rfl (dk KX8_bale 31 rfl) ?_
      refine X_iconst (dk KX8_bale 32 rfl) 1 (by decide) ?_
      refine X_iadd (dk KX8_bale 33 rfl) ?_
      refine Y_putI fX8_131 rfl (Nat.le_of_ble_eq_true rfl) rfl (dk KX8_bale 34 rfl) ?_
      refine X_aload_n 1 rfl (dk KX8_bale 35 rfl) ?_
      refine Y_getR 41 fX8_44 (Nat.le_of_ble_eq_true rfl) rfl rfl (dk KX8_bale 36 rfl) ?_
      refine Y_callVV wX8_74 (Nat.le_of_ble_eq_true rfl) rfl [] [] rfl rfl (Nat.le_of_ble_eq_true rfl) (Nat.le_of_ble_eq_true rfl) (dk KX8_bale 37 rfl) (fun Pc h => okX1_forget _ Pc h) h (fun σ8 e9 h => ?_)
      try dsimp only at h
      refine X_iload_n 0 rfl (dk KX8_bale 38 rfl) ?_
      exact Y_iret (dk KX8_bale 39 rfl) rfl h
    · have h := hO_t hc h
      refine X_iconst (dk KX8_bale 12 rfl) (-1) (by decide) ?_
      exact Y_iret (dk KX8_bale 13 rfl) rfl h

def fX8_shut (a1 : Int32) (a2 : Int32) (σ : PS) : Option (Int32 × PS) := (fX8_isWithin a1 0 ((gi σ 3 0) - 2) σ).bind (fun qy1 => (fun (y1 : Int32) (σ2 : PS) => (if y1 = 0 then some ((-1), σ2) else (fX8_isDay a2 σ2).bind (fun qy4 => (fun (y4 : Int32) (σ5 : PS) => (if y4 = 0 then some ((-1), σ5) else (fX0_addShut a1 a2 σ5).bind (fun qy7 => (fun (y7 : Int32) (σ8 : PS) => some (y7, σ8)) qy7.1 qy7.2))) qy4.1 qy4.2))) qy1.1 qy1.2)
set_option maxRecDepth 100000 in
set_option maxHeartbeats 4000000 in
theorem okX8_shut (a1 : Int32) (a2 : Int32) (σ : PS) (P : Int32 × PS → Prop) (h : hO (fX8_shut a1 a2 σ) P) : CON g mX8_shut 2 0 0 [.ref 0, .int a1, .int a2] (HP σ) (pI P) := by
  refine CON.of (by decide) (by simp [lg_sl, Value.category]) ?_
  show X g _ _ _ _ _ 0 [(0, .ref 0), (1, .int a1), (2, .int a2)] [] _
  unfold fX8_shut at h
  refine X_iload_n 1 rfl (dk KX8_shut 0 rfl) ?_
  refine X_iconst (dk KX8_shut 1 rfl) 0 (by decide) ?_
  refine X_aload_n 0 rfl (dk KX8_shut 2 rfl) ?_
  refine Y_getR 3 fX8_31 (Nat.le_of_ble_eq_true rfl) rfl rfl (dk KX8_shut 3 rfl) ?_
  refine Y_getI fX8_80 (Nat.le_of_ble_eq_true rfl) rfl (dk KX8_shut 4 rfl) ?_
  refine X_iconst (dk KX8_shut 5 rfl) 2 (by decide) ?_
  refine X_isub (dk KX8_shut 6 rfl) ?_
  refine Y_callSI wX8_66 [.int a1, .int 0, .int ((gi σ 3 0) - 2)] [] rfl rfl (Nat.le_of_ble_eq_true rfl) (Nat.le_of_ble_eq_true rfl) (dk KX8_shut 7 rfl) (fun Pc h => okX8_isWithin _ _ _ _ Pc h) h (fun y1 σ2 e3 h => ?_)
  try dsimp only at h
  refine X_if_eq 24 (dk KX8_shut 8 rfl) (by decide) (fun hc => ?_) (fun hc => ?_)
  · have h := hO_t hc h
    refine X_iconst (dk KX8_shut 12 rfl) (-1) (by decide) ?_
    exact Y_iret (dk KX8_shut 13 rfl) rfl h
  · have h := hO_f hc h
    refine X_iload_n 2 rfl (dk KX8_shut 9 rfl) ?_
    refine Y_callSI wX8_110 [.int a2] [] rfl rfl (Nat.le_of_ble_eq_true rfl) (Nat.le_of_ble_eq_true rfl) (dk KX8_shut 10 rfl) (fun Pc h => okX8_isDay _ _ Pc h) h (fun y4 σ5 e6 h => ?_)
    try dsimp only at h
    refine X_if_ne 26 (dk KX8_shut 11 rfl) (by decide) (fun hc => ?_) (fun hc => ?_)
    · have h := hO_f hc h
      refine X_aload_n 0 rfl (dk KX8_shut 14 rfl) ?_
      refine Y_getR 25 fX8_35 (Nat.le_of_ble_eq_true rfl) rfl rfl (dk KX8_shut 15 rfl) ?_
      refine X_iload_n 1 rfl (dk KX8_shut 16 rfl) ?_
      refine X_iload_n 2 rfl (dk KX8_shut 17 rfl) ?_
      refine Y_callVI wX8_143 (Nat.le_of_ble_eq_true rfl) rfl [.int a1, .int a2] [] rfl rfl (Nat.le_of_ble_eq_true rfl) (Nat.le_of_ble_eq_true rfl) (dk KX8_shut 18 rfl) (fun Pc h => okX0_addShut _ _ _ Pc h) h (fun y7 σ8 e9 h => ?_)
      try dsimp only at h
      exact Y_iret (dk KX8_shut 19 rfl) rfl h
    · have h := hO_t hc h
      refine X_iconst (dk KX8_shut 12 rfl) (-1) (by decide) ?_
      exact Y_iret (dk KX8_shut 13 rfl) rfl h

def fX8_look (a1 : Int32) (a2 : Int32) (a3 : Int32) (σ : PS) : Option (Int32 × PS) := (fX2_hasBale a1 σ).bind (fun qy1 => (fun (y1 : Int32) (σ2 : PS) => (if y1 = 0 then some ((-1), σ2) else (fX8_isDay a2 σ2).bind (fun qy4 => (fun (y4 : Int32) (σ5 : PS) => (if y4 = 0 then some ((-1), σ5) else (fX0_addLook a1 a2 a3 σ5).bind (fun qy7 => (fun (y7 : Int32) (σ8 : PS) => some (y7, σ8)) qy7.1 qy7.2))) qy4.1 qy4.2))) qy1.1 qy1.2)
set_option maxRecDepth 100000 in
set_option maxHeartbeats 4000000 in
theorem okX8_look (a1 : Int32) (a2 : Int32) (a3 : Int32) (σ : PS) (P : Int32 × PS → Prop) (h : hO (fX8_look a1 a2 a3 σ) P) : CON g mX8_look 2 0 0 [.ref 0, .int a1, .int a2, .int a3] (HP σ) (pI P) := by
  refine CON.of (by decide) (by simp [lg_sl, Value.category]) ?_
  show X g _ _ _ _ _ 0 [(0, .ref 0), (1, .int a1), (2, .int a2), (3, .int a3)] [] _
  unfold fX8_look at h
  refine X_aload_n 0 rfl (dk KX8_look 0 rfl) ?_
  refine Y_getR 3 fX8_31 (Nat.le_of_ble_eq_true rfl) rfl rfl (dk KX8_look 1 rfl) ?_
  refine X_iload_n 1 rfl (dk KX8_look 2 rfl) ?_
  refine Y_callVI wX8_147 (Nat.le_of_ble_eq_true rfl) rfl [.int a1] [] rfl rfl (Nat.le_of_ble_eq_true rfl) (Nat.le_of_ble_eq_true rfl) (dk KX8_look 3 rfl) (fun Pc h => okX2_hasBale _ _ Pc h) h (fun y1 σ2 e3 h => ?_)
  try dsimp only at h
  refine X_if_eq 18 (dk KX8_look 4 rfl) (by decide) (fun hc => ?_) (fun hc => ?_)
  · have h := hO_t hc h
    refine X_iconst (dk KX8_look 8 rfl) (-1) (by decide) ?_
    exact Y_iret (dk KX8_look 9 rfl) rfl h
  · have h := hO_f hc h
    refine X_iload_n 2 rfl (dk KX8_look 5 rfl) ?_
    refine Y_callSI wX8_110 [.int a2] [] rfl rfl (Nat.le_of_ble_eq_true rfl) (Nat.le_of_ble_eq_true rfl) (dk KX8_look 6 rfl) (fun Pc h => okX8_isDay _ _ Pc h) h (fun y4 σ5 e6 h => ?_)
    try dsimp only at h
    refine X_if_ne 20 (dk KX8_look 7 rfl) (by decide) (fun hc => ?_) (fun hc => ?_)
    · have h := hO_f hc h
      refine X_aload_n 0 rfl (dk KX8_look 10 rfl) ?_
      refine Y_getR 25 fX8_35 (Nat.le_of_ble_eq_true rfl) rfl rfl (dk KX8_look 11 rfl) ?_
      refine X_iload_n 1 rfl (dk KX8_look 12 rfl) ?_
      refine X_iload_n 2 rfl (dk KX8_look 13 rfl) ?_
      refine X_iload_n 3 rfl (dk KX8_look 14 rfl) ?_
      refine Y_callVI wX8_150 (Nat.le_of_ble_eq_true rfl) rfl [.int a1, .int a2, .int a3] [] rfl rfl (Nat.le_of_ble_eq_true rfl) (Nat.le_of_ble_eq_true rfl) (dk KX8_look 15 rfl) (fun Pc h => okX0_addLook _ _ _ _ Pc h) h (fun y7 σ8 e9 h => ?_)
      try dsimp only at h
      exact Y_iret (dk KX8_look 16 rfl) rfl h
    · have h := hO_t hc h
      refine X_iconst (dk KX8_look 8 rfl) (-1) (by decide) ?_
      exact Y_iret (dk KX8_look 9 rfl) rfl h

def fX8_state (a1 : Int32) (a2 : Int32) (a3 : Int32) (a4 : Int32) (σ : PS) : Option (Int32 × PS) := (fX2_hasCaravan a1 σ).bind (fun qy1 => (fun (y1 : Int32) (σ2 : PS) => (if y1 = 0 then some ((-1000000), σ2) else (fX8_isDay a2 σ2).bind (fun qy4 => (fun (y4 : Int32) (σ5 : PS) => (if y4 = 0 then some ((-1000000), σ5) else (fX0_isKnown a3 σ5).bind (fun qy7 => (fun (y7 : Int32) (σ8 : PS) => (if y7 = 0 then some ((-1000000), σ8) else gd (isBk (bkO σ8)) ((fX1_walk (bkO σ8) a3 σ8).bind (fun σ12 => (if a4 = 0 then gd (inb a1 6) (gd (inb a2 60) (some ((gi σ12 (rw_ 43 a1) (a2 : Int32).toNatClampNeg), σ12))) else (if a4 = 1 then gd (inb a1 6) (gd (inb a2 60) (some ((gi σ12 (rw_ 50 a1) (a2 : Int32).toNatClampNeg), σ12))) else (if a4 = 2 then gd (inb a1 6) (gd (inb a2 60) (some ((gi σ12 (rw_ 57 a1) (a2 : Int32).toNatClampNeg), σ12))) else (if a4 = 3 then gd (inb a1 6) (gd (inb a2 60) (some ((gi σ12 (rw_ 64 a1) (a2 : Int32).toNatClampNeg), σ12))) else (if a4 = 4 then gd (inb a1 6) (gd (inb a2 60) (some ((gi σ12 (rw_ 71 a1) (a2 : Int32).toNatClampNeg), σ12))) else (if a4 = 5 then (fX1_isOutside a1 a2 σ12).bind (fun qy24 => (fun (y24 : Int32) (σ25 : PS) => (if y24 = 0 then some (0, σ25) else some (1, σ25))) qy24.1 qy24.2) else (if a4 = 6 then gd (inb a1 6) (gd (inb a2 60) (some ((gi σ12 (rw_ 78 a1) (a2 : Int32).toNatClampNeg), σ12))) else some ((-1000000), σ12)))))))))))) qy7.1 qy7.2))) qy4.1 qy4.2))) qy1.1 qy1.2)
set_option maxRecDepth 100000 in
set_option maxHeartbeats 4000000 in
theorem okX8_state (a1 : Int32) (a2 : Int32) (a3 : Int32) (a4 : Int32) (σ : PS) (P : Int32 × PS → Prop) (h : hO (fX8_state a1 a2 a3 a4 σ) P) : CON g mX8_state 16 0 0 [.ref 0, .int a1, .int a2, .int a3, .int a4] (HP σ) (pI P) := by
  refine CON.of (by decide) (by simp [lg_sl, Value.category]) ?_
  show X g _ _ _ _ _ 0 [(0, .ref 0), (1, .int a1), (2, .int a2), (3, .int a3), (4, .int a4)] [] _
  unfold fX8_state at h
  refine X_aload_n 0 rfl (dk KX8_state 0 rfl) ?_
  refine Y_getR 3 fX8_31 (Nat.le_of_ble_eq_true rfl) rfl rfl (dk KX8_state 1 rfl) ?_
  refine X_iload_n 1 rfl (dk KX8_state 2 rfl) ?_
  refine Y_callVI wX8_134 (Nat.le_of_ble_eq_true rfl) rfl [.int a1] [] rfl rfl (Nat.le_of_ble_eq_true rfl) (Nat.le_of_ble_eq_true rfl) (dk KX8_state 3 rfl) (fun Pc h => okX2_hasCaravan _ _ Pc h) h (fun y1 σ2 e3 h => ?_)
  try dsimp only at h
  refine X_if_eq 29 (dk KX8_state 4 rfl) (by decide) (fun hc => ?_) (fun hc => ?_)
  · have h := hO_t hc h
    refine X_ldc (-1000000) cstX8_157 (dk KX8_state 13 rfl) ?_
    exact Y_iret (dk KX8_state 14 rfl) rfl h
  · have h := hO_f hc h
    refine X_iload_n 2 rfl (dk KX8_state 5 rfl) ?_
    refine Y_callSI wX8_110 [.int a2] [] rfl rfl (Nat.le_of_ble_eq_true rfl) (Nat.le_of_ble_eq_true rfl) (dk KX8_state 6 rfl) (fun Pc h => okX8_isDay _ _ Pc h) h (fun y4 σ5 e6 h => ?_)
    try dsimp only at h
    refine X_if_eq 29 (dk KX8_state 7 rfl) (by decide) (fun hc => ?_) (fun hc => ?_)
    · have h := hO_t hc h
      refine X_ldc (-1000000) cstX8_157 (dk KX8_state 13 rfl) ?_
      exact Y_iret (dk KX8_state 14 rfl) rfl h
    · have h := hO_f hc h
      refine X_aload_n 0 rfl (dk KX8_state 8 rfl) ?_
      refine Y_getR 25 fX8_35 (Nat.le_of_ble_eq_true rfl) rfl rfl (dk KX8_state 9 rfl) ?_
      refine X_iload_n 3 rfl (dk KX8_state 10 rfl) ?_
      refine Y_callVI wX8_154 (Nat.le_of_ble_eq_true rfl) rfl [.int a3] [] rfl rfl (Nat.le_of_ble_eq_true rfl) (Nat.le_of_ble_eq_true rfl) (dk KX8_state 11 rfl) (fun Pc h => okX0_isKnown _ _ Pc h) h (fun y7 σ8 e9 h => ?_)
      try dsimp only at h
      refine X_if_ne 32 (dk KX8_state 12 rfl) (by decide) (fun hc => ?_) (fun hc => ?_)
      · have h := hO_f hc h
        refine X_aload_n 0 rfl (dk KX8_state 15 rfl) ?_
        refine Y_getR 41 fX8_44 (Nat.le_of_ble_eq_true rfl) rfl rfl (dk KX8_state 16 rfl) ?_
        refine X_aload_n 0 rfl (dk KX8_state 17 rfl) ?_
        refine Y_getR (bkO σ8) fX8_51 (Nat.le_of_ble_eq_true rfl) rfl rfl (dk KX8_state 18 rfl) ?_
        refine Y_guard h (fun hb10 h => ?_)
        refine X_iload_n 3 rfl (dk KX8_state 19 rfl) ?_
        refine Y_callVV wX8_158 (Nat.le_of_ble_eq_true rfl) rfl [.ref (bkO σ8), .int a3] [] rfl rfl (Nat.le_of_ble_eq_true rfl) (Nat.le_of_ble_eq_true rfl) (dk KX8_state 20 rfl) (fun Pc h => okX1_walk hb10 _ _ Pc h) h (fun σ12 e13 h => ?_)
        try dsimp only at h
        refine X_iload 4 rfl (dk KX8_state 21 rfl) ?_
        by_cases hs0 : a4 = (0 : Int32)
        · have h := hO_t hs0 h
          refine Y_tab 0 hs0 88 (dk KX8_state 22 rfl) (by decide) (by decide) rfl (by decide) ?_
          refine X_aload_n 0 rfl (dk KX8_state 23 rfl) ?_
          refine Y_getR 41 fX8_44 (Nat.le_of_ble_eq_true rfl) rfl rfl (dk KX8_state 24 rfl) ?_
          refine Y_getR 43 fX8_162 (Nat.le_of_ble_eq_true rfl) rfl rfl (dk KX8_state 25 rfl) ?_
          refine X_iload_n 1 rfl (dk KX8_state 26 rfl) ?_
          refine Y_aald (rw_ 43 a1) (Nat.le_of_ble_eq_true rfl) rfl (gr43_rf _ _) (dk KX8_state 27 rfl) h (fun hi14 h => ?_)
          refine X_iload_n 2 rfl (dk KX8_state 28 rfl) ?_
          refine Y_iald (gr43_lt hi14) (gr43_ob hi14) (dk KX8_state 29 rfl) h (fun hi15 h => ?_)
          exact Y_iret (dk KX8_state 30 rfl) rfl h
        have h := hO_f hs0 h
        by_cases hs1 : a4 = (1 : Int32)
        · have h := hO_t hs1 h
          refine Y_tab 1 hs1 100 (dk KX8_state 22 rfl) (by decide) (by decide) rfl (by decide) ?_
          refine X_aload_n 0 rfl (dk KX8_state 31 rfl) ?_
          refine Y_getR 41 fX8_44 (Nat.le_of_ble_eq_true rfl) rfl rfl (dk KX8_state 32 rfl) ?_
          refine Y_getR 50 fX8_165 (Nat.le_of_ble_eq_true rfl) rfl rfl (dk KX8_state 33 rfl) ?_
          refine X_iload_n 1 rfl (dk KX8_state 34 rfl) ?_
          refine Y_aald (rw_ 50 a1) (Nat.le_of_ble_eq_true rfl) rfl (gr50_rf _ _) (dk KX8_state 35 rfl) h (fun hi16 h => ?_)
          refine X_iload_n 2 rfl (dk KX8_state 36 rfl) ?_
          refine Y_iald (gr50_lt hi16) (gr50_ob hi16) (dk KX8_state 37 rfl) h (fun hi17 h => ?_)
          exact Y_iret (dk KX8_state 38 rfl) rfl h
        have h := hO_f hs1 h
        by_cases hs2 : a4 = (2 : Int32)
        · have h := hO_t hs2 h
          refine Y_tab 2 hs2 112 (dk KX8_state 22 rfl) (by decide) (by decide) rfl (by decide) ?_
          refine X_aload_n 0 rfl (dk KX8_state 39 rfl) ?_
          refine Y_getR 41 fX8_44 (Nat.le_of_ble_eq_true rfl) rfl rfl (dk KX8_state 40 rfl) ?_
          refine Y_getR 57 fX8_168 (Nat.le_of_ble_eq_true rfl) rfl rfl (dk KX8_state 41 rfl) ?_
          refine X_iload_n 1 rfl (dk KX8_state 42 rfl) ?_
          refine Y_aald (rw_ 57 a1) (Nat.le_of_ble_eq_true rfl) rfl (gr57_rf _ _) (dk KX8_state 43 rfl) h (fun hi18 h => ?_)
          refine X_iload_n 2 rfl (dk KX8_state 44 rfl) ?_
          refine Y_iald (gr57_lt hi18) (gr57_ob hi18) (dk KX8_state 45 rfl) h (fun hi19 h => ?_)
          exact Y_iret (dk KX8_state 46 rfl) rfl h
        have h := hO_f hs2 h
        by_cases hs3 : a4 = (3 : Int32)
        · have h := hO_t hs3 h
          refine Y_tab 3 hs3 124 (dk KX8_state 22 rfl) (by decide) (by decide) rfl (by decide) ?_
          refine X_aload_n 0 rfl (dk KX8_state 47 rfl) ?_
          refine Y_getR 41 fX8_44 (Nat.le_of_ble_eq_true rfl) rfl rfl (dk KX8_state 48 rfl) ?_
          refine Y_getR 64 fX8_171 (Nat.le_of_ble_eq_true rfl) rfl rfl (dk KX8_state 49 rfl) ?_
          refine X_iload_n 1 rfl (dk KX8_state 50 rfl) ?_
          refine Y_aald (rw_ 64 a1) (Nat.le_of_ble_eq_true rfl) rfl (gr64_rf _ _) (dk KX8_state 51 rfl) h (fun hi20 h => ?_)
          refine X_iload_n 2 rfl (dk KX8_state 52 rfl) ?_
          refine Y_iald (gr64_lt hi20) (gr64_ob hi20) (dk KX8_state 53 rfl) h (fun hi21 h => ?_)
          exact Y_iret (dk KX8_state 54 rfl) rfl h
        have h := hO_f hs3 h
        by_cases hs4 : a4 = (4 : Int32)
        · have h := hO_t hs4 h
          refine Y_tab 4 hs4 136 (dk KX8_state 22 rfl) (by decide) (by decide) rfl (by decide) ?_
          refine X_aload_n 0 rfl (dk KX8_state 55 rfl) ?_
          refine Y_getR 41 fX8_44 (Nat.le_of_ble_eq_true rfl) rfl rfl (dk KX8_state 56 rfl) ?_
          refine Y_getR 71 fX8_174 (Nat.le_of_ble_eq_true rfl) rfl rfl (dk KX8_state 57 rfl) ?_
          refine X_iload_n 1 rfl (dk KX8_state 58 rfl) ?_
          refine Y_aald (rw_ 71 a1) (Nat.le_of_ble_eq_true rfl) rfl (gr71_rf _ _) (dk KX8_state 59 rfl) h (fun hi22 h => ?_)
          refine X_iload_n 2 rfl (dk KX8_state 60 rfl) ?_
          refine Y_iald (gr71_lt hi22) (gr71_ob hi22) (dk KX8_state 61 rfl) h (fun hi23 h => ?_)
          exact Y_iret (dk KX8_state 62 rfl) rfl h
        have h := hO_f hs4 h
        by_cases hs5 : a4 = (5 : Int32)
        · have h := hO_t hs5 h
          refine Y_tab 5 hs5 148 (dk KX8_state 22 rfl) (by decide) (by decide) rfl (by decide) ?_
          refine X_aload_n 0 rfl (dk KX8_state 63 rfl) ?_
          refine Y_getR 41 fX8_44 (Nat.le_of_ble_eq_true rfl) rfl rfl (dk KX8_state 64 rfl) ?_
          refine X_iload_n 1 rfl (dk KX8_state 65 rfl) ?_
          refine X_iload_n 2 rfl (dk KX8_state 66 rfl) ?_
          refine Y_callVI wX8_177 (Nat.le_of_ble_eq_true rfl) rfl [.int a1, .int a2] [] rfl rfl (Nat.le_of_ble_eq_true rfl) (Nat.le_of_ble_eq_true rfl) (dk KX8_state 67 rfl) (fun Pc h => okX1_isOutside _ _ _ Pc h) h (fun y24 σ25 e26 h => ?_)
          try dsimp only at h
          refine X_if_eq 164 (dk KX8_state 68 rfl) (by decide) (fun hc => ?_) (fun hc => ?_)
          · have h := hO_t hc h
            refine X_iconst (dk KX8_state 71 rfl) 0 (by decide) ?_
            exact Y_iret (dk KX8_state 72 rfl) rfl h
          · have h := hO_f hc h
            refine X_iconst (dk KX8_state 69 rfl) 1 (by decide) ?_
            refine X_goto 165 (dk KX8_state 70 rfl) (by decide) ?_
            exact Y_iret (dk KX8_state 72 rfl) rfl h
        have h := hO_f hs5 h
        by_cases hs6 : a4 = (6 : Int32)
        · have h := hO_t hs6 h
          refine Y_tab 6 hs6 166 (dk KX8_state 22 rfl) (by decide) (by decide) rfl (by decide) ?_
          refine X_aload_n 0 rfl (dk KX8_state 73 rfl) ?_
          refine Y_getR 41 fX8_44 (Nat.le_of_ble_eq_true rfl) rfl rfl (dk KX8_state 74 rfl) ?_
          refine Y_getR 78 fX8_181 (Nat.le_of_ble_eq_true rfl) rfl rfl (dk KX8_state 75 rfl) ?_
          refine X_iload_n 1 rfl (dk KX8_state 76 rfl) ?_
          refine Y_aald (rw_ 78 a1) (Nat.le_of_ble_eq_true rfl) rfl (gr78_rf _ _) (dk KX8_state 77 rfl) h (fun hi27 h => ?_)
          refine X_iload_n 2 rfl (dk KX8_state 78 rfl) ?_
          refine Y_iald (gr78_lt hi27) (gr78_ob hi27) (dk KX8_state 79 rfl) h (fun hi28 h => ?_)
          exact Y_iret (dk KX8_state 80 rfl) rfl h
        have h := hO_f hs6 h
        refine X_tableOut 178 (dk KX8_state 22 rfl) (sw_out_0_6 hs0 hs1 hs2 hs3 hs4 hs5 hs6) (by decide) ?_
        refine X_ldc (-1000000) cstX8_157 (dk KX8_state 81 rfl) ?_
        exact Y_iret (dk KX8_state 82 rfl) rfl h
      · have h := hO_t hc h
        refine X_ldc (-1000000) cstX8_157 (dk KX8_state 13 rfl) ?_
        exact Y_iret (dk KX8_state 14 rfl) rfl h

def fX8_house (a1 : Int32) (a2 : Int32) (a3 : Int32) (a4 : Int32) (σ : PS) : Option (Int32 × PS) := (fX2_hasInn a1 σ).bind (fun qy1 => (fun (y1 : Int32) (σ2 : PS) => (if y1 = 0 then some ((-1000000), σ2) else (fX8_isDay a2 σ2).bind (fun qy4 => (fun (y4 : Int32) (σ5 : PS) => (if y4 = 0 then some ((-1000000), σ5) else (fX0_isKnown a3 σ5).bind (fun qy7 => (fun (y7 : Int32) (σ8 : PS) => (if y7 = 0 then some ((-1000000), σ8) else gd (isBk (bkO σ8)) ((fX1_walk (bkO σ8) a3 σ8).bind (fun σ12 => (if a4 = 0 then (fX1_beastsInStalls a1 a2 σ12).bind (fun qy14 => (fun (y14 : Int32) (σ15 : PS) => some (y14, σ15)) qy14.1 qy14.2) else (if a4 = 1 then gd (inb a1 8) (gd (inb a2 60) (some ((gi σ12 (rw_ 92 a1) (a2 : Int32).toNatClampNeg), σ12))) else (if a4 = 2 then (fX1_guests a1 a2 1 σ12).bind (fun qy19 => (fun (y19 : Int32) (σ20 : PS) => some (y19, σ20)) qy19.1 qy19.2) else (if a4 = 3 then (fX1_guests a1 a2 0 σ12).bind (fun qy22 => (fun (y22 : Int32) (σ23 : PS) => some (y22, σ23)) qy22.1 qy22.2) else some ((-1000000), σ12))))))))) qy7.1 qy7.2))) qy4.1 qy4.2))) qy1.1 qy1.2)
set_option maxRecDepth 100000 in
set_option maxHeartbeats 4000000 in
theorem okX8_house (a1 : Int32) (a2 : Int32) (a3 : Int32) (a4 : Int32) (σ : PS) (P : Int32 × PS → Prop) (h : hO (fX8_house a1 a2 a3 a4 σ) P) : CON g mX8_house 16 0 0 [.ref 0, .int a1, .int a2, .int a3, .int a4] (HP σ) (pI P) := by
  refine CON.of (by decide) (by simp [lg_sl, Value.category]) ?_
  show X g _ _ _ _ _ 0 [(0, .ref 0), (1, .int a1), (2, .int a2), (3, .int a3), (4, .int a4)] [] _
  unfold fX8_house at h
  refine X_aload_n 0 rfl (dk KX8_house 0 rfl) ?_
  refine Y_getR 3 fX8_31 (Nat.le_of_ble_eq_true rfl) rfl rfl (dk KX8_house 1 rfl) ?_
  refine X_iload_n 1 rfl (dk KX8_house 2 rfl) ?_
  refine Y_callVI wX8_97 (Nat.le_of_ble_eq_true rfl) rfl [.int a1] [] rfl rfl (Nat.le_of_ble_eq_true rfl) (Nat.le_of_ble_eq_true rfl) (dk KX8_house 3 rfl) (fun Pc h => okX2_hasInn _ _ Pc h) h (fun y1 σ2 e3 h => ?_)
  try dsimp only at h
  refine X_if_eq 29 (dk KX8_house 4 rfl) (by decide) (fun hc => ?_) (fun hc => ?_)
  · have h := hO_t hc h
    refine X_ldc (-1000000) cstX8_157 (dk KX8_house 13 rfl) ?_
    exact Y_iret (dk KX8_house 14 rfl) rfl h
  · have h := hO_f hc h
    refine X_iload_n 2 rfl (dk KX8_house 5 rfl) ?_
    refine Y_callSI wX8_110 [.int a2] [] rfl rfl (Nat.le_of_ble_eq_true rfl) (Nat.le_of_ble_eq_true rfl) (dk KX8_house 6 rfl) (fun Pc h => okX8_isDay _ _ Pc h) h (fun y4 σ5 e6 h => ?_)
    try dsimp only at h
    refine X_if_eq 29 (dk KX8_house 7 rfl) (by decide) (fun hc => ?_) (fun hc => ?_)
    · have h := hO_t hc h
      refine X_ldc (-1000000) cstX8_157 (dk KX8_house 13 rfl) ?_
      exact Y_iret (dk KX8_house 14 rfl) rfl h
    · have h := hO_f hc h
      refine X_aload_n 0 rfl (dk KX8_house 8 rfl) ?_
      refine Y_getR 25 fX8_35 (Nat.le_of_ble_eq_true rfl) rfl rfl (dk KX8_house 9 rfl) ?_
      refine X_iload_n 3 rfl (dk KX8_house 10 rfl) ?_
      refine Y_callVI wX8_154 (Nat.le_of_ble_eq_true rfl) rfl [.int a3] [] rfl rfl (Nat.le_of_ble_eq_true rfl) (Nat.le_of_ble_eq_true rfl) (dk KX8_house 11 rfl) (fun Pc h => okX0_isKnown _ _ Pc h) h (fun y7 σ8 e9 h => ?_)
      try dsimp only at h
      refine X_if_ne 32 (dk KX8_house 12 rfl) (by decide) (fun hc => ?_) (fun hc => ?_)
      · have h := hO_f hc h
        refine X_aload_n 0 rfl (dk KX8_house 15 rfl) ?_
        refine Y_getR 41 fX8_44 (Nat.le_of_ble_eq_true rfl) rfl rfl (dk KX8_house 16 rfl) ?_
        refine X_aload_n 0 rfl (dk KX8_house 17 rfl) ?_
        refine Y_getR (bkO σ8) fX8_51 (Nat.le_of_ble_eq_true rfl) rfl rfl (dk KX8_house 18 rfl) ?_
        refine Y_guard h (fun hb10 h => ?_)
        refine X_iload_n 3 rfl (dk KX8_house 19 rfl) ?_
        refine Y_callVV wX8_158 (Nat.le_of_ble_eq_true rfl) rfl [.ref (bkO σ8), .int a3] [] rfl rfl (Nat.le_of_ble_eq_true rfl) (Nat.le_of_ble_eq_true rfl) (dk KX8_house 20 rfl) (fun Pc h => okX1_walk hb10 _ _ Pc h) h (fun σ12 e13 h => ?_)
        try dsimp only at h
        refine X_iload 4 rfl (dk KX8_house 21 rfl) ?_
        by_cases hs0 : a4 = (0 : Int32)
        · have h := hO_t hs0 h
          refine Y_tab 0 hs0 76 (dk KX8_house 22 rfl) (by decide) (by decide) rfl (by decide) ?_
          refine X_aload_n 0 rfl (dk KX8_house 23 rfl) ?_
          refine Y_getR 41 fX8_44 (Nat.le_of_ble_eq_true rfl) rfl rfl (dk KX8_house 24 rfl) ?_
          refine X_iload_n 1 rfl (dk KX8_house 25 rfl) ?_
          refine X_iload_n 2 rfl (dk KX8_house 26 rfl) ?_
          refine Y_callVI wX8_184 (Nat.le_of_ble_eq_true rfl) rfl [.int a1, .int a2] [] rfl rfl (Nat.le_of_ble_eq_true rfl) (Nat.le_of_ble_eq_true rfl) (dk KX8_house 27 rfl) (fun Pc h => okX1_beastsInStalls _ _ _ Pc h) h (fun y14 σ15 e16 h => ?_)
          try dsimp only at h
          exact Y_iret (dk KX8_house 28 rfl) rfl h
        have h := hO_f hs0 h
        by_cases hs1 : a4 = (1 : Int32)
        · have h := hO_t hs1 h
          refine Y_tab 1 hs1 86 (dk KX8_house 22 rfl) (by decide) (by decide) rfl (by decide) ?_
          refine X_aload_n 0 rfl (dk KX8_house 29 rfl) ?_
          refine Y_getR 41 fX8_44 (Nat.le_of_ble_eq_true rfl) rfl rfl (dk KX8_house 30 rfl) ?_
          refine Y_getR 92 fX8_187 (Nat.le_of_ble_eq_true rfl) rfl rfl (dk KX8_house 31 rfl) ?_
          refine X_iload_n 1 rfl (dk KX8_house 32 rfl) ?_
          refine Y_aald (rw_ 92 a1) (Nat.le_of_ble_eq_true rfl) rfl (gr92_rf _ _) (dk KX8_house 33 rfl) h (fun hi17 h => ?_)
          refine X_iload_n 2 rfl (dk KX8_house 34 rfl) ?_
          refine Y_iald (gr92_lt hi17) (gr92_ob hi17) (dk KX8_house 35 rfl) h (fun hi18 h => ?_)
          exact Y_iret (dk KX8_house 36 rfl) rfl h
        have h := hO_f hs1 h
        by_cases hs2 : a4 = (2 : Int32)
        · have h := hO_t hs2 h
          refine Y_tab 2 hs2 98 (dk KX8_house 22 rfl) (by decide) (by decide) rfl (by decide) ?_
          refine X_aload_n 0 rfl (dk KX8_house 37 rfl) ?_
          refine Y_getR 41 fX8_44 (Nat.le_of_ble_eq_true rfl) rfl rfl (dk KX8_house 38 rfl) ?_
          refine X_iload_n 1 rfl (dk KX8_house 39 rfl) ?_
          refine X_iload_n 2 rfl (dk KX8_house 40 rfl) ?_
          refine X_iconst (dk KX8_house 41 rfl) 1 (by decide) ?_
          refine Y_callVI wX8_190 (Nat.le_of_ble_eq_true rfl) rfl [.int a1, .int a2, .int 1] [] rfl rfl (Nat.le_of_ble_eq_true rfl) (Nat.le_of_ble_eq_true rfl) (dk KX8_house 42 rfl) (fun Pc h => okX1_guests _ _ _ _ Pc h) h (fun y19 σ20 e21 h => ?_)
          try dsimp only at h
          exact Y_iret (dk KX8_house 43 rfl) rfl h
        have h := hO_f hs2 h
        by_cases hs3 : a4 = (3 : Int32)
        · have h := hO_t hs3 h
          refine Y_tab 3 hs3 109 (dk KX8_house 22 rfl) (by decide) (by decide) rfl (by decide) ?_
          refine X_aload_n 0 rfl (dk KX8_house 44 rfl) ?_
          refine Y_getR 41 fX8_44 (Nat.le_of_ble_eq_true rfl) rfl rfl (dk KX8_house 45 rfl) ?_
          refine X_iload_n 1 rfl (dk KX8_house 46 rfl) ?_
          refine X_iload_n 2 rfl (dk KX8_house 47 rfl) ?_
          refine X_iconst (dk KX8_house 48 rfl) 0 (by decide) ?_
          refine Y_callVI wX8_190 (Nat.le_of_ble_eq_true rfl) rfl [.int a1, .int a2, .int 0] [] rfl rfl (Nat.le_of_ble_eq_true rfl) (Nat.le_of_ble_eq_true rfl) (dk KX8_house 49 rfl) (fun Pc h => okX1_guests _ _ _ _ Pc h) h (fun y22 σ23 e24 h => ?_)
          try dsimp only at h
          exact Y_iret (dk KX8_house 50 rfl) rfl h
        have h := hO_f hs3 h
        refine X_tableOut 120 (dk KX8_house 22 rfl) (sw_out_0_3 hs0 hs1 hs2 hs3) (by decide) ?_
        refine X_ldc (-1000000) cstX8_157 (dk KX8_house 51 rfl) ?_
        exact Y_iret (dk KX8_house 52 rfl) rfl h
      · have h := hO_t hc h
        refine X_ldc (-1000000) cstX8_157 (dk KX8_house 13 rfl) ?_
        exact Y_iret (dk KX8_house 14 rfl) rfl h

def fX8_full (a1 : Int32) (a2 : Int32) (a3 : Int32) (a4 : Int32) (σ : PS) : Option (Int32 × PS) := (fX2_hasInn a1 σ).bind (fun qy1 => (fun (y1 : Int32) (σ2 : PS) => (if y1 = 0 then some ((-1000000), σ2) else gd (inb a1 8) ((fX8_isWithin a2 0 ((gi σ2 7 (a1 : Int32).toNatClampNeg) - 1) σ2).bind (fun qy5 => (fun (y5 : Int32) (σ6 : PS) => (if y5 = 0 then some ((-1000000), σ6) else (fX8_isDay a3 σ6).bind (fun qy8 => (fun (y8 : Int32) (σ9 : PS) => (if y8 = 0 then some ((-1000000), σ9) else (fX0_isKnown a4 σ9).bind (fun qy11 => (fun (y11 : Int32) (σ12 : PS) => (if y11 = 0 then some ((-1000000), σ12) else gd (isBk (bkO σ12)) ((fX1_walk (bkO σ12) a4 σ12).bind (fun σ16 => (fX1_guardsInRoom a1 a2 a3 σ16).bind (fun qy18 => (fun (y18 : Int32) (σ19 : PS) => some (y18, σ19)) qy18.1 qy18.2))))) qy11.1 qy11.2))) qy8.1 qy8.2))) qy5.1 qy5.2)))) qy1.1 qy1.2)
set_option maxRecDepth 100000 in
set_option maxHeartbeats 4000000 in
theorem okX8_full (a1 : Int32) (a2 : Int32) (a3 : Int32) (a4 : Int32) (σ : PS) (P : Int32 × PS → Prop) (h : hO (fX8_full a1 a2 a3 a4 σ) P) : CON g mX8_full 16 0 0 [.ref 0, .int a1, .int a2, .int a3, .int a4] (HP σ) (pI P) := by
  refine CON.of (by decide) (by simp [lg_sl, Value.category]) ?_
  show X g _ _ _ _ _ 0 [(0, .ref 0), (1, .int a1), (2, .int a2), (3, .int a3), (4, .int a4)] [] _
  unfold fX8_full at h
  refine X_aload_n 0 rfl (dk KX8_full 0 rfl) ?_
  refine Y_getR 3 fX8_31 (Nat.le_of_ble_eq_true rfl) rfl rfl (dk KX8_full 1 rfl) ?_
  refine X_iload_n 1 rfl (dk KX8_full 2 rfl) ?_
  refine Y_callVI wX8_97 (Nat.le_of_ble_eq_true rfl) rfl [.int a1] [] rfl rfl (Nat.le_of_ble_eq_true rfl) (Nat.le_of_ble_eq_true rfl) (dk KX8_full 3 rfl) (fun Pc h => okX2_hasInn _ _ Pc h) h (fun y1 σ2 e3 h => ?_)
  try dsimp only at h
  refine X_if_eq 49 (dk KX8_full 4 rfl) (by decide) (fun hc => ?_) (fun hc => ?_)
  · have h := hO_t hc h
    refine X_ldc (-1000000) cstX8_157 (dk KX8_full 24 rfl) ?_
    exact Y_iret (dk KX8_full 25 rfl) rfl h
  · have h := hO_f hc h
    refine X_iload_n 2 rfl (dk KX8_full 5 rfl) ?_
    refine X_iconst (dk KX8_full 6 rfl) 0 (by decide) ?_
    refine X_aload_n 0 rfl (dk KX8_full 7 rfl) ?_
    refine Y_getR 3 fX8_31 (Nat.le_of_ble_eq_true rfl) rfl rfl (dk KX8_full 8 rfl) ?_
    refine Y_getR 7 fX8_100 (Nat.le_of_ble_eq_true rfl) rfl rfl (dk KX8_full 9 rfl) ?_
    refine X_iload_n 1 rfl (dk KX8_full 10 rfl) ?_
    refine Y_iald (Nat.le_of_ble_eq_true rfl) rfl (dk KX8_full 11 rfl) h (fun hi4 h => ?_)
    refine X_iconst (dk KX8_full 12 rfl) 1 (by decide) ?_
    refine X_isub (dk KX8_full 13 rfl) ?_
    refine Y_callSI wX8_66 [.int a2, .int 0, .int ((gi σ2 7 (a1 : Int32).toNatClampNeg) - 1)] [] rfl rfl (Nat.le_of_ble_eq_true rfl) (Nat.le_of_ble_eq_true rfl) (dk KX8_full 14 rfl) (fun Pc h => okX8_isWithin _ _ _ _ Pc h) h (fun y5 σ6 e7 h => ?_)
    try dsimp only at h
    refine X_if_eq 49 (dk KX8_full 15 rfl) (by decide) (fun hc => ?_) (fun hc => ?_)
    · have h := hO_t hc h
      refine X_ldc (-1000000) cstX8_157 (dk KX8_full 24 rfl) ?_
      exact Y_iret (dk KX8_full 25 rfl) rfl h
    · have h := hO_f hc h
      refine X_iload_n 3 rfl (dk KX8_full 16 rfl) ?_
      refine Y_callSI wX8_110 [.int a3] [] rfl rfl (Nat.le_of_ble_eq_true rfl) (Nat.le_of_ble_eq_true rfl) (dk KX8_full 17 rfl) (fun Pc h => okX8_isDay _ _ Pc h) h (fun y8 σ9 e10 h => ?_)
      try dsimp only at h
      refine X_if_eq 49 (dk KX8_full 18 rfl) (by decide) (fun hc => ?_) (fun hc => ?_)
      · have h := hO_t hc h
        refine X_ldc (-1000000) cstX8_157 (dk KX8_full 24 rfl) ?_
        exact Y_iret (dk KX8_full 25 rfl) rfl h
      · have h := hO_f hc h
        refine X_aload_n 0 rfl (dk KX8_full 19 rfl) ?_
        refine Y_getR 25 fX8_35 (Nat.le_of_ble_eq_true rfl) rfl rfl (dk KX8_full 20 rfl) ?_
        refine X_iload 4 rfl (dk KX8_full 21 rfl) ?_
        refine Y_callVI wX8_154 (Nat.le_of_ble_eq_true rfl) rfl [.int a4] [] rfl rfl (Nat.le_of_ble_eq_true rfl) (Nat.le_of_ble_eq_true rfl) (dk KX8_full 22 rfl) (fun Pc h => okX0_isKnown _ _ Pc h) h (fun y11 σ12 e13 h => ?_)
        try dsimp only at h
        refine X_if_ne 52 (dk KX8_full 23 rfl) (by decide) (fun hc => ?_) (fun hc => ?_)
        · have h := hO_f hc h
          refine X_aload_n 0 rfl (dk KX8_full 26 rfl) ?_
          refine Y_getR 41 fX8_44 (Nat.le_of_ble_eq_true rfl) rfl rfl (dk KX8_full 27 rfl) ?_
          refine X_aload_n 0 rfl (dk KX8_full 28 rfl) ?_
          refine Y_getR (bkO σ12) fX8_51 (Nat.le_of_ble_eq_true rfl) rfl rfl (dk KX8_full 29 rfl) ?_
          refine Y_guard h (fun hb14 h => ?_)
          refine X_iload 4 rfl (dk KX8_full 30 rfl) ?_
          refine Y_callVV wX8_158 (Nat.le_of_ble_eq_true rfl) rfl [.ref (bkO σ12), .int a4] [] rfl rfl (Nat.le_of_ble_eq_true rfl) (Nat.le_of_ble_eq_true rfl) (dk KX8_full 31 rfl) (fun Pc h => okX1_walk hb14 _ _ Pc h) h (fun σ16 e17 h => ?_)
          try dsimp only at h
          refine X_aload_n 0 rfl (dk KX8_full 32 rfl) ?_
          refine Y_getR 41 fX8_44 (Nat.le_of_ble_eq_true rfl) rfl rfl (dk KX8_full 33 rfl) ?_
          refine X_iload_n 1 rfl (dk KX8_full 34 rfl) ?_
          refine X_iload_n 2 rfl (dk KX8_full 35 rfl) ?_
          refine X_iload_n 3 rfl (dk KX8_full 36 rfl) ?_
          refine Y_callVI wX8_193 (Nat.le_of_ble_eq_true rfl) rfl [.int a1, .int a2, .int a3] [] rfl rfl (Nat.le_of_ble_eq_true rfl) (Nat.le_of_ble_eq_true rfl) (dk KX8_full 37 rfl) (fun Pc h => okX1_guardsInRoom _ _ _ _ Pc h) h (fun y18 σ19 e20 h => ?_)
          try dsimp only at h
          exact Y_iret (dk KX8_full 38 rfl) rfl h
        · have h := hO_t hc h
          refine X_ldc (-1000000) cstX8_157 (dk KX8_full 24 rfl) ?_
          exact Y_iret (dk KX8_full 25 rfl) rfl h

def fX8_comes_38 : Nat → Int32 → Int32 → PS → Option (Int32 × PS)
  | 0, _, _, _ => none
  | n + 1, x1, x3, σ => (if 60 ≤ x3 then some ((-1), σ) else gd (inb x1 6) (gd (inb x3 60) (gd (inb x1 6) ((if (gi σ (rw_ 43 x1) (x3 : Int32).toNatClampNeg) = (gi σ 21 (x1 : Int32).toNatClampNeg) then some (x3, σ) else fX8_comes_38 n x1 (x3 + 1) σ)))))
set_option maxRecDepth 100000 in
set_option maxHeartbeats 4000000 in
theorem tX8_comes_38 {P : Int32 × PS → Prop} : ∀ (n : Nat) (x1 : Int32) (x3 : Int32) (σ : PS), hO (fX8_comes_38 n x1 x3 σ) P → X g mX8_comes 16 0 0 (pI P) 38 [(0, .ref 0), (1, .int x1), (3, .int x3)] [] (HP σ) := by
  intro n
  induction n with
  | zero =>
    intro x1 x3 σ h
    rw [fX8_comes_38] at h
    exact (hO_none h).elim
  | succ n ih =>
    intro x1 x3 σ h
    rw [fX8_comes_38] at h
    refine X_iload_n 2 rfl (dk KX8_comes 20 rfl) ?_
    refine X_bipush (dk KX8_comes 21 rfl) 60 (by decide) ?_
    refine X_icmp_ge 75 (dk KX8_comes 22 rfl) (by decide) (fun hc => ?_) (fun hc => ?_)
    · have h := hO_t hc h
      refine X_iconst (dk KX8_comes 40 rfl) (-1) (by decide) ?_
      exact Y_iret (dk KX8_comes 41 rfl) rfl h
    · have h := hO_f hc h
      refine X_aload_n 0 rfl (dk KX8_comes 23 rfl) ?_
      refine Y_getR 41 fX8_44 (Nat.le_of_ble_eq_true rfl) rfl rfl (dk KX8_comes 24 rfl) ?_
      refine Y_getR 43 fX8_162 (Nat.le_of_ble_eq_true rfl) rfl rfl (dk KX8_comes 25 rfl) ?_
      refine X_iload_n 1 rfl (dk KX8_comes 26 rfl) ?_
      refine Y_aald (rw_ 43 x1) (Nat.le_of_ble_eq_true rfl) rfl (gr43_rf _ _) (dk KX8_comes 27 rfl) h (fun hi11 h => ?_)
      refine X_iload_n 2 rfl (dk KX8_comes 28 rfl) ?_
      refine Y_iald (gr43_lt hi11) (gr43_ob hi11) (dk KX8_comes 29 rfl) h (fun hi12 h => ?_)
      refine X_aload_n 0 rfl (dk KX8_comes 30 rfl) ?_
      refine Y_getR 3 fX8_31 (Nat.le_of_ble_eq_true rfl) rfl rfl (dk KX8_comes 31 rfl) ?_
      refine Y_getR 21 fX8_125 (Nat.le_of_ble_eq_true rfl) rfl rfl (dk KX8_comes 32 rfl) ?_
      refine X_iload_n 1 rfl (dk KX8_comes 33 rfl) ?_
      refine Y_iald (Nat.le_of_ble_eq_true rfl) rfl (dk KX8_comes 34 rfl) h (fun hi13 h => ?_)
      refine X_icmp_ne 69 (dk KX8_comes 35 rfl) (by decide) (fun hc => ?_) (fun hc => ?_)
      · have h := hO_f hc h
        refine X_iinc 2 1 [(3, .int (x3 + 1)), (0, .ref 0), (1, .int x1)] (dk KX8_comes 38 rfl) rfl (by decide) (by decide) rfl ?_
        refine X_goto 38 (dk KX8_comes 39 rfl) (by decide) ?_
        refine X_sub [(0, .ref 0), (1, .int x1), (3, .int (x3 + 1))] [1, 2, 0] rfl ?_
        exact ih x1 (x3 + 1) σ h
      · have h := hO_t hc h
        refine X_iload_n 2 rfl (dk KX8_comes 36 rfl) ?_
        exact Y_iret (dk KX8_comes 37 rfl) rfl h
def fX8_comes (a1 : Int32) (a2 : Int32) (σ : PS) : Option (Int32 × PS) := (fX2_hasCaravan a1 σ).bind (fun qy1 => (fun (y1 : Int32) (σ2 : PS) => (if y1 = 0 then some ((-1), σ2) else (fX0_isKnown a2 σ2).bind (fun qy4 => (fun (y4 : Int32) (σ5 : PS) => (if y4 = 0 then some ((-1), σ5) else gd (isBk (bkO σ5)) ((fX1_walk (bkO σ5) a2 σ5).bind (fun σ9 => fX8_comes_38 FU a1 0 σ9)))) qy4.1 qy4.2))) qy1.1 qy1.2)
set_option maxRecDepth 100000 in
set_option maxHeartbeats 4000000 in
theorem okX8_comes (a1 : Int32) (a2 : Int32) (σ : PS) (P : Int32 × PS → Prop) (h : hO (fX8_comes a1 a2 σ) P) : CON g mX8_comes 16 0 0 [.ref 0, .int a1, .int a2] (HP σ) (pI P) := by
  refine CON.of (by decide) (by simp [lg_sl, Value.category]) ?_
  show X g _ _ _ _ _ 0 [(0, .ref 0), (1, .int a1), (2, .int a2)] [] _
  unfold fX8_comes at h
  refine X_aload_n 0 rfl (dk KX8_comes 0 rfl) ?_
  refine Y_getR 3 fX8_31 (Nat.le_of_ble_eq_true rfl) rfl rfl (dk KX8_comes 1 rfl) ?_
  refine X_iload_n 1 rfl (dk KX8_comes 2 rfl) ?_
  refine Y_callVI wX8_134 (Nat.le_of_ble_eq_true rfl) rfl [.int a1] [] rfl rfl (Nat.le_of_ble_eq_true rfl) (Nat.le_of_ble_eq_true rfl) (dk KX8_comes 3 rfl) (fun Pc h => okX2_hasCaravan _ _ Pc h) h (fun y1 σ2 e3 h => ?_)
  try dsimp only at h
  refine X_if_eq 22 (dk KX8_comes 4 rfl) (by decide) (fun hc => ?_) (fun hc => ?_)
  · have h := hO_t hc h
    refine X_iconst (dk KX8_comes 10 rfl) (-1) (by decide) ?_
    exact Y_iret (dk KX8_comes 11 rfl) rfl h
  · have h := hO_f hc h
    refine X_aload_n 0 rfl (dk KX8_comes 5 rfl) ?_
    refine Y_getR 25 fX8_35 (Nat.le_of_ble_eq_true rfl) rfl rfl (dk KX8_comes 6 rfl) ?_
    refine X_iload_n 2 rfl (dk KX8_comes 7 rfl) ?_
    refine Y_callVI wX8_154 (Nat.le_of_ble_eq_true rfl) rfl [.int a2] [] rfl rfl (Nat.le_of_ble_eq_true rfl) (Nat.le_of_ble_eq_true rfl) (dk KX8_comes 8 rfl) (fun Pc h => okX0_isKnown _ _ Pc h) h (fun y4 σ5 e6 h => ?_)
    try dsimp only at h
    refine X_if_ne 24 (dk KX8_comes 9 rfl) (by decide) (fun hc => ?_) (fun hc => ?_)
    · have h := hO_f hc h
      refine X_aload_n 0 rfl (dk KX8_comes 12 rfl) ?_
      refine Y_getR 41 fX8_44 (Nat.le_of_ble_eq_true rfl) rfl rfl (dk KX8_comes 13 rfl) ?_
      refine X_aload_n 0 rfl (dk KX8_comes 14 rfl) ?_
      refine Y_getR (bkO σ5) fX8_51 (Nat.le_of_ble_eq_true rfl) rfl rfl (dk KX8_comes 15 rfl) ?_
      refine Y_guard h (fun hb7 h => ?_)
      refine X_iload_n 2 rfl (dk KX8_comes 16 rfl) ?_
      refine Y_callVV wX8_158 (Nat.le_of_ble_eq_true rfl) rfl [.ref (bkO σ5), .int a2] [] rfl rfl (Nat.le_of_ble_eq_true rfl) (Nat.le_of_ble_eq_true rfl) (dk KX8_comes 17 rfl) (fun Pc h => okX1_walk hb7 _ _ Pc h) h (fun σ9 e10 h => ?_)
      try dsimp only at h
      refine X_iconst (dk KX8_comes 18 rfl) 0 (by decide) ?_
      refine X_istore_n [(3, .int 0), (0, .ref 0), (1, .int a1), (2, .int a2)] (dk KX8_comes 19 rfl) (by decide) rfl ?_
      refine X_sub [(0, .ref 0), (1, .int a1), (3, .int 0)] [1, 2, 0] rfl ?_
      exact tX8_comes_38 FU a1 0 σ9 h
    · have h := hO_t hc h
      refine X_iconst (dk KX8_comes 10 rfl) (-1) (by decide) ?_
      exact Y_iret (dk KX8_comes 11 rfl) rfl h

def fX8_barred (a1 : Int32) (a2 : Int32) (a3 : Int32) (σ : PS) : Option (Int32 × PS) := (fX2_hasCaravan a1 σ).bind (fun qy1 => (fun (y1 : Int32) (σ2 : PS) => (if y1 = 0 then some ((-1), σ2) else (fX8_isDay a2 σ2).bind (fun qy4 => (fun (y4 : Int32) (σ5 : PS) => (if y4 = 0 then some ((-1), σ5) else (fX0_isKnown a3 σ5).bind (fun qy7 => (fun (y7 : Int32) (σ8 : PS) => (if y7 = 0 then some ((-1), σ8) else gd (isBk (bkO σ8)) ((fX1_walk (bkO σ8) a3 σ8).bind (fun σ12 => gd (inb a1 6) (gd (inb a2 60) (some ((gi σ12 (rw_ 85 a1) (a2 : Int32).toNatClampNeg), σ12))))))) qy7.1 qy7.2))) qy4.1 qy4.2))) qy1.1 qy1.2)
set_option maxRecDepth 100000 in
set_option maxHeartbeats 4000000 in
theorem okX8_barred (a1 : Int32) (a2 : Int32) (a3 : Int32) (σ : PS) (P : Int32 × PS → Prop) (h : hO (fX8_barred a1 a2 a3 σ) P) : CON g mX8_barred 16 0 0 [.ref 0, .int a1, .int a2, .int a3] (HP σ) (pI P) := by
  refine CON.of (by decide) (by simp [lg_sl, Value.category]) ?_
  show X g _ _ _ _ _ 0 [(0, .ref 0), (1, .int a1), (2, .int a2), (3, .int a3)] [] _
  unfold fX8_barred at h
  refine X_aload_n 0 rfl (dk KX8_barred 0 rfl) ?_
  refine Y_getR 3 fX8_31 (Nat.le_of_ble_eq_true rfl) rfl rfl (dk KX8_barred 1 rfl) ?_
  refine X_iload_n 1 rfl (dk KX8_barred 2 rfl) ?_
  refine Y_callVI wX8_134 (Nat.le_of_ble_eq_true rfl) rfl [.int a1] [] rfl rfl (Nat.le_of_ble_eq_true rfl) (Nat.le_of_ble_eq_true rfl) (dk KX8_barred 3 rfl) (fun Pc h => okX2_hasCaravan _ _ Pc h) h (fun y1 σ2 e3 h => ?_)
  try dsimp only at h
  refine X_if_eq 29 (dk KX8_barred 4 rfl) (by decide) (fun hc => ?_) (fun hc => ?_)
  · have h := hO_t hc h
    refine X_iconst (dk KX8_barred 13 rfl) (-1) (by decide) ?_
    exact Y_iret (dk KX8_barred 14 rfl) rfl h
  · have h := hO_f hc h
    refine X_iload_n 2 rfl (dk KX8_barred 5 rfl) ?_
    refine Y_callSI wX8_110 [.int a2] [] rfl rfl (Nat.le_of_ble_eq_true rfl) (Nat.le_of_ble_eq_true rfl) (dk KX8_barred 6 rfl) (fun Pc h => okX8_isDay _ _ Pc h) h (fun y4 σ5 e6 h => ?_)
    try dsimp only at h
    refine X_if_eq 29 (dk KX8_barred 7 rfl) (by decide) (fun hc => ?_) (fun hc => ?_)
    · have h := hO_t hc h
      refine X_iconst (dk KX8_barred 13 rfl) (-1) (by decide) ?_
      exact Y_iret (dk KX8_barred 14 rfl) rfl h
    · have h := hO_f hc h
      refine X_aload_n 0 rfl (dk KX8_barred 8 rfl) ?_
      refine Y_getR 25 fX8_35 (Nat.le_of_ble_eq_true rfl) rfl rfl (dk KX8_barred 9 rfl) ?_
      refine X_iload_n 3 rfl (dk KX8_barred 10 rfl) ?_
      refine Y_callVI wX8_154 (Nat.le_of_ble_eq_true rfl) rfl [.int a3] [] rfl rfl (Nat.le_of_ble_eq_true rfl) (Nat.le_of_ble_eq_true rfl) (dk KX8_barred 11 rfl) (fun Pc h => okX0_isKnown _ _ Pc h) h (fun y7 σ8 e9 h => ?_)
      try dsimp only at h
      refine X_if_ne 31 (dk KX8_barred 12 rfl) (by decide) (fun hc => ?_) (fun hc => ?_)
      · have h := hO_f hc h
        refine X_aload_n 0 rfl (dk KX8_barred 15 rfl) ?_
        refine Y_getR 41 fX8_44 (Nat.le_of_ble_eq_true rfl) rfl rfl (dk KX8_barred 16 rfl) ?_
        refine X_aload_n 0 rfl (dk KX8_barred 17 rfl) ?_
        refine Y_getR (bkO σ8) fX8_51 (Nat.le_of_ble_eq_true rfl) rfl rfl (dk KX8_barred 18 rfl) ?_
        refine Y_guard h (fun hb10 h => ?_)
        refine X_iload_n 3 rfl (dk KX8_barred 19 rfl) ?_
        refine Y_callVV wX8_158 (Nat.le_of_ble_eq_true rfl) rfl [.ref (bkO σ8), .int a3] [] rfl rfl (Nat.le_of_ble_eq_true rfl) (Nat.le_of_ble_eq_true rfl) (dk KX8_barred 20 rfl) (fun Pc h => okX1_walk hb10 _ _ Pc h) h (fun σ12 e13 h => ?_)
        try dsimp only at h
        refine X_aload_n 0 rfl (dk KX8_barred 21 rfl) ?_
        refine Y_getR 41 fX8_44 (Nat.le_of_ble_eq_true rfl) rfl rfl (dk KX8_barred 22 rfl) ?_
        refine Y_getR 85 fX8_197 (Nat.le_of_ble_eq_true rfl) rfl rfl (dk KX8_barred 23 rfl) ?_
        refine X_iload_n 1 rfl (dk KX8_barred 24 rfl) ?_
        refine Y_aald (rw_ 85 a1) (Nat.le_of_ble_eq_true rfl) rfl (gr85_rf _ _) (dk KX8_barred 25 rfl) h (fun hi14 h => ?_)
        refine X_iload_n 2 rfl (dk KX8_barred 26 rfl) ?_
        refine Y_iald (gr85_lt hi14) (gr85_ob hi14) (dk KX8_barred 27 rfl) h (fun hi15 h => ?_)
        exact Y_iret (dk KX8_barred 28 rfl) rfl h
      · have h := hO_t hc h
        refine X_iconst (dk KX8_barred 13 rfl) (-1) (by decide) ?_
        exact Y_iret (dk KX8_barred 14 rfl) rfl h

def fX8_could_79 : Nat → Int32 → Int32 → Int32 → Int32 → PS → Option (Int32 × PS)
  | 0, _, _, _, _, _ => none
  | n + 1, x1, x4, x5, x6, σ => (if x4 < x6 then some (x5, σ) else (if 60 ≤ x6 then some (x5, σ) else gd (inb x1 60) ((fX1_companions (gi σ 24 (x1 : Int32).toNatClampNeg) x6 σ).bind (fun qy19 => (fun (y19 : Int32) (σ20 : PS) => fX8_could_79 n x1 x4 (x5 ||| y19) (x6 + 1) σ20) qy19.1 qy19.2))))
set_option maxRecDepth 100000 in
set_option maxHeartbeats 4000000 in
theorem tX8_could_79 {P : Int32 × PS → Prop} : ∀ (n : Nat) (x1 : Int32) (x4 : Int32) (x5 : Int32) (x6 : Int32) (σ : PS), hO (fX8_could_79 n x1 x4 x5 x6 σ) P → X g mX8_could 16 0 0 (pI P) 79 [(0, .ref 0), (1, .int x1), (4, .int x4), (5, .int x5), (6, .int x6)] [] (HP σ) := by
  intro n
  induction n with
  | zero =>
    intro x1 x4 x5 x6 σ h
    rw [fX8_could_79] at h
    exact (hO_none h).elim
  | succ n ih =>
    intro x1 x4 x5 x6 σ h
    rw [fX8_could_79] at h
    refine X_iload 4 rfl (dk KX8_could 44 rfl) ?_
    refine X_iload 2 rfl (dk KX8_could 45 rfl) ?_
    refine X_icmp_gt 122 (dk KX8_could 46 rfl) (by decide) (fun hc => ?_) (fun hc => ?_)
    · have h := hO_t hc h
      refine X_iload 3 rfl (dk KX8_could 64 rfl) ?_
      exact Y_iret (dk KX8_could 65 rfl) rfl h
    · have h := hO_f hc h
      refine X_iload 4 rfl (dk KX8_could 47 rfl) ?_
      refine X_bipush (dk KX8_could 48 rfl) 60 (by decide) ?_
      refine X_icmp_ge 122 (dk KX8_could 49 rfl) (by decide) (fun hc => ?_) (fun hc => ?_)
      · have h := hO_t hc h
        refine X_iload 3 rfl (dk KX8_could 64 rfl) ?_
        exact Y_iret (dk KX8_could 65 rfl) rfl h
      · have h := hO_f hc h
        refine X_iload 3 rfl (dk KX8_could 50 rfl) ?_
        refine X_aload_n 0 rfl (dk KX8_could 51 rfl) ?_
        refine Y_getR 41 fX8_44 (Nat.le_of_ble_eq_true rfl) rfl rfl (dk KX8_could 52 rfl) ?_
        refine X_aload_n 0 rfl (dk KX8_could 53 rfl) ?_
        refine Y_getR 3 fX8_31 (Nat.le_of_ble_eq_true rfl) rfl rfl (dk KX8_could 54 rfl) ?_
        refine Y_getR 24 fX8_137 (Nat.le_of_ble_eq_true rfl) rfl rfl (dk KX8_could 55 rfl) ?_
        refine X_iload_n 1 rfl (dk KX8_could 56 rfl) ?_
        refine Y_iald (Nat.le_of_ble_eq_true rfl) rfl (dk KX8_could 57 rfl) h (fun hi18 h => ?_)
        refine X_iload 4 rfl (dk KX8_could 58 rfl) ?_
        refine Y_callVI wX8_209 (Nat.le_of_ble_eq_true rfl) rfl [.int (gi σ 24 (x1 : Int32).toNatClampNeg), .int x6] [.int x5] rfl rfl (Nat.le_of_ble_eq_true rfl) (Nat.le_of_ble_eq_true rfl) (dk KX8_could 59 rfl) (fun Pc h => okX1_companions _ _ _ Pc h) h (fun y19 σ20 e21 h => ?_)
        try dsimp only at h
        refine X_ior (dk KX8_could 60 rfl) ?_
        refine X_istore [(5, .int (x5 ||| y19)), (0, .ref 0), (1, .int x1), (4, .int x4), (6, .int x6)] (dk KX8_could 61 rfl) (by decide) rfl ?_
        refine X_iinc 4 1 [(6, .int (x6 + 1)), (5, .int (x5 ||| y19)), (0, .ref 0), (1, .int x1), (4, .int x4)] (dk KX8_could 62 rfl) rfl (by decide) (by decide) rfl ?_
        refine X_goto 79 (dk KX8_could 63 rfl) (by decide) ?_
        refine X_sub [(0, .ref 0), (1, .int x1), (4, .int x4), (5, .int (x5 ||| y19)), (6, .int (x6 + 1))] [2, 3, 4, 1, 0] rfl ?_
        exact ih x1 x4 (x5 ||| y19) (x6 + 1) σ20 h
def fX8_could (a1 : Int32) (a2 : Int32) (σ : PS) : Option (Int32 × PS) := (fX2_hasBale a1 σ).bind (fun qy1 => (fun (y1 : Int32) (σ2 : PS) => (if y1 = 0 then some ((-1), σ2) else (fX0_isKnown a2 σ2).bind (fun qy4 => (fun (y4 : Int32) (σ5 : PS) => (if y4 = 0 then some ((-1), σ5) else (fX0_firstBroken a1 a2 σ5).bind (fun qy7 => (fun (y7 : Int32) (σ8 : PS) => (if y7 = (-1) then some ((-1), σ8) else gd (isBk (bkO σ8)) ((fX1_walk (bkO σ8) a2 σ8).bind (fun σ12 => gd (inb y7 300) ((fX0_firstSuspectDay a1 a2 y7 σ12).bind (fun qy15 => (fun (y15 : Int32) (σ16 : PS) => fX8_could_79 FU a1 (gi σ12 27 (y7 : Int32).toNatClampNeg) 0 y15 σ16) qy15.1 qy15.2)))))) qy7.1 qy7.2))) qy4.1 qy4.2))) qy1.1 qy1.2)
set_option maxRecDepth 100000 in
set_option maxHeartbeats 4000000 in
theorem okX8_could (a1 : Int32) (a2 : Int32) (σ : PS) (P : Int32 × PS → Prop) (h : hO (fX8_could a1 a2 σ) P) : CON g mX8_could 16 0 0 [.ref 0, .int a1, .int a2] (HP σ) (pI P) := by
  refine CON.of (by decide) (by simp [lg_sl, Value.category]) ?_
  show X g _ _ _ _ _ 0 [(0, .ref 0), (1, .int a1), (2, .int a2)] [] _
  unfold fX8_could at h
  refine X_aload_n 0 rfl (dk KX8_could 0 rfl) ?_
  refine Y_getR 3 fX8_31 (Nat.le_of_ble_eq_true rfl) rfl rfl (dk KX8_could 1 rfl) ?_
  refine X_iload_n 1 rfl (dk KX8_could 2 rfl) ?_
  refine Y_callVI wX8_147 (Nat.le_of_ble_eq_true rfl) rfl [.int a1] [] rfl rfl (Nat.le_of_ble_eq_true rfl) (Nat.le_of_ble_eq_true rfl) (dk KX8_could 3 rfl) (fun Pc h => okX2_hasBale _ _ Pc h) h (fun y1 σ2 e3 h => ?_)
  try dsimp only at h
  refine X_if_eq 22 (dk KX8_could 4 rfl) (by decide) (fun hc => ?_) (fun hc => ?_)
  · have h := hO_t hc h
    refine X_iconst (dk KX8_could 10 rfl) (-1) (by decide) ?_
    exact Y_iret (dk KX8_could 11 rfl) rfl h
  · have h := hO_f hc h
    refine X_aload_n 0 rfl (dk KX8_could 5 rfl) ?_
    refine Y_getR 25 fX8_35 (Nat.le_of_ble_eq_true rfl) rfl rfl (dk KX8_could 6 rfl) ?_
    refine X_iload_n 2 rfl (dk KX8_could 7 rfl) ?_
    refine Y_callVI wX8_154 (Nat.le_of_ble_eq_true rfl) rfl [.int a2] [] rfl rfl (Nat.le_of_ble_eq_true rfl) (Nat.le_of_ble_eq_true rfl) (dk KX8_could 8 rfl) (fun Pc h => okX0_isKnown _ _ Pc h) h (fun y4 σ5 e6 h => ?_)
    try dsimp only at h
    refine X_if_ne 24 (dk KX8_could 9 rfl) (by decide) (fun hc => ?_) (fun hc => ?_)
    · have h := hO_f hc h
      refine X_aload_n 0 rfl (dk KX8_could 12 rfl) ?_
      refine Y_getR 25 fX8_35 (Nat.le_of_ble_eq_true rfl) rfl rfl (dk KX8_could 13 rfl) ?_
      refine X_iload_n 1 rfl (dk KX8_could 14 rfl) ?_
      refine X_iload_n 2 rfl (dk KX8_could 15 rfl) ?_
      refine Y_callVI wX8_200 (Nat.le_of_ble_eq_true rfl) rfl [.int a1, .int a2] [] rfl rfl (Nat.le_of_ble_eq_true rfl) (Nat.le_of_ble_eq_true rfl) (dk KX8_could 16 rfl) (fun Pc h => okX0_firstBroken _ _ _ Pc h) h (fun y7 σ8 e9 h => ?_)
      try dsimp only at h
      refine X_istore_n [(3, .int y7), (0, .ref 0), (1, .int a1), (2, .int a2)] (dk KX8_could 17 rfl) (by decide) rfl ?_
      refine X_iload_n 0 rfl (dk KX8_could 18 rfl) ?_
      refine X_iconst (dk KX8_could 19 rfl) (-1) (by decide) ?_
      refine X_icmp_ne 41 (dk KX8_could 20 rfl) (by decide) (fun hc => ?_) (fun hc => ?_)
      · have h := hO_f hc h
        refine X_aload_n 1 rfl (dk KX8_could 23 rfl) ?_
        refine Y_getR 41 fX8_44 (Nat.le_of_ble_eq_true rfl) rfl rfl (dk KX8_could 24 rfl) ?_
        refine X_aload_n 1 rfl (dk KX8_could 25 rfl) ?_
        refine Y_getR (bkO σ8) fX8_51 (Nat.le_of_ble_eq_true rfl) rfl rfl (dk KX8_could 26 rfl) ?_
        refine Y_guard h (fun hb10 h => ?_)
        refine X_iload_n 3 rfl (dk KX8_could 27 rfl) ?_
        refine Y_callVV wX8_158 (Nat.le_of_ble_eq_true rfl) rfl [.ref (bkO σ8), .int a2] [] rfl rfl (Nat.le_of_ble_eq_true rfl) (Nat.le_of_ble_eq_true rfl) (dk KX8_could 28 rfl) (fun Pc h => okX1_walk hb10 _ _ Pc h) h (fun σ12 e13 h => ?_)
        try dsimp only at h
        refine X_aload_n 1 rfl (dk KX8_could 29 rfl) ?_
        refine Y_getR 25 fX8_35 (Nat.le_of_ble_eq_true rfl) rfl rfl (dk KX8_could 30 rfl) ?_
        refine Y_getR 27 fX8_203 (Nat.le_of_ble_eq_true rfl) rfl rfl (dk KX8_could 31 rfl) ?_
        refine X_iload_n 0 rfl (dk KX8_could 32 rfl) ?_
        refine Y_iald (Nat.le_of_ble_eq_true rfl) rfl (dk KX8_could 33 rfl) h (fun hi14 h => ?_)
        refine X_istore [(4, .int (gi σ12 27 (y7 : Int32).toNatClampNeg)), (3, .int y7), (0, .ref 0), (1, .int a1), (2, .int a2)] (dk KX8_could 34 rfl) (by decide) rfl ?_
        refine X_iconst (dk KX8_could 35 rfl) 0 (by decide) ?_
        refine X_istore [(5, .int 0), (4, .int (gi σ12 27 (y7 : Int32).toNatClampNeg)), (3, .int y7), (0, .ref 0), (1, .int a1), (2, .int a2)] (dk KX8_could 36 rfl) (by decide) rfl ?_
        refine X_aload_n 3 rfl (dk KX8_could 37 rfl) ?_
        refine Y_getR 25 fX8_35 (Nat.le_of_ble_eq_true rfl) rfl rfl (dk KX8_could 38 rfl) ?_
        refine X_iload_n 4 rfl (dk KX8_could 39 rfl) ?_
        refine X_iload_n 5 rfl (dk KX8_could 40 rfl) ?_
        refine X_iload_n 2 rfl (dk KX8_could 41 rfl) ?_
        refine Y_callVI wX8_206 (Nat.le_of_ble_eq_true rfl) rfl [.int a1, .int a2, .int y7] [] rfl rfl (Nat.le_of_ble_eq_true rfl) (Nat.le_of_ble_eq_true rfl) (dk KX8_could 42 rfl) (fun Pc h => okX0_firstSuspectDay _ _ _ _ Pc h) h (fun y15 σ16 e17 h => ?_)
        try dsimp only at h
        refine X_istore [(6, .int y15), (5, .int 0), (4, .int (gi σ12 27 (y7 : Int32).toNatClampNeg)), (3, .int y7), (0, .ref 0), (1, .int a1), (2, .int a2)] (dk KX8_could 43 rfl) (by decide) rfl ?_
        refine X_sub [(0, .ref 0), (1, .int a1), (4, .int (gi σ12 27 (y7 : Int32).toNatClampNeg)), (5, .int 0), (6, .int y15)] [4, 5, 2, 1, 0] rfl ?_
        exact tX8_could_79 FU a1 (gi σ12 27 (y7 : Int32).toNatClampNeg) 0 y15 σ16 h
      · have h := hO_t hc h
        refine X_iconst (dk KX8_could 21 rfl) (-1) (by decide) ?_
        exact Y_iret (dk KX8_could 22 rfl) rfl h
    · have h := hO_t hc h
      refine X_iconst (dk KX8_could 10 rfl) (-1) (by decide) ?_
      exact Y_iret (dk KX8_could 11 rfl) rfl h

def fX8_sealed (a1 : Int32) (a2 : Int32) (a3 : Int32) (σ : PS) : Option (Int32 × PS) := (fX2_hasBale a1 σ).bind (fun qy1 => (fun (y1 : Int32) (σ2 : PS) => (if y1 = 0 then some ((-1), σ2) else (fX8_isDay a2 σ2).bind (fun qy4 => (fun (y4 : Int32) (σ5 : PS) => (if y4 = 0 then some ((-1), σ5) else (fX0_isKnown a3 σ5).bind (fun qy7 => (fun (y7 : Int32) (σ8 : PS) => (if y7 = 0 then some ((-1), σ8) else (fX0_firstBroken a1 a3 σ8).bind (fun qy10 => (fun (y10 : Int32) (σ11 : PS) => (if y10 = (-1) then some (1, σ11) else gd (inb y10 300) ((if (gi σ11 27 (y10 : Int32).toNatClampNeg) ≤ a2 then some (0, σ11) else some (1, σ11))))) qy10.1 qy10.2))) qy7.1 qy7.2))) qy4.1 qy4.2))) qy1.1 qy1.2)
set_option maxRecDepth 100000 in
set_option maxHeartbeats 4000000 in
theorem okX8_sealed (a1 : Int32) (a2 : Int32) (a3 : Int32) (σ : PS) (P : Int32 × PS → Prop) (h : hO (fX8_sealed a1 a2 a3 σ) P) : CON g mX8_sealed 2 0 0 [.ref 0, .int a1, .int a2, .int a3] (HP σ) (pI P) := by
  refine CON.of (by decide) (by simp [lg_sl, Value.category]) ?_
  show X g _ _ _ _ _ 0 [(0, .ref 0), (1, .int a1), (2, .int a2), (3, .int a3)] [] _
  unfold fX8_sealed at h
  refine X_aload_n 0 rfl (dk KX8_sealed 0 rfl) ?_
  refine Y_getR 3 fX8_31 (Nat.le_of_ble_eq_true rfl) rfl rfl (dk KX8_sealed 1 rfl) ?_
  refine X_iload_n 1 rfl (dk KX8_sealed 2 rfl) ?_
  refine Y_callVI wX8_147 (Nat.le_of_ble_eq_true rfl) rfl [.int a1] [] rfl rfl (Nat.le_of_ble_eq_true rfl) (Nat.le_of_ble_eq_true rfl) (dk KX8_sealed 3 rfl) (fun Pc h => okX2_hasBale _ _ Pc h) h (fun y1 σ2 e3 h => ?_)
  try dsimp only at h
  refine X_if_eq 29 (dk KX8_sealed 4 rfl) (by decide) (fun hc => ?_) (fun hc => ?_)
  · have h := hO_t hc h
    refine X_iconst (dk KX8_sealed 13 rfl) (-1) (by decide) ?_
    exact Y_iret (dk KX8_sealed 14 rfl) rfl h
  · have h := hO_f hc h
    refine X_iload_n 2 rfl (dk KX8_sealed 5 rfl) ?_
    refine Y_callSI wX8_110 [.int a2] [] rfl rfl (Nat.le_of_ble_eq_true rfl) (Nat.le_of_ble_eq_true rfl) (dk KX8_sealed 6 rfl) (fun Pc h => okX8_isDay _ _ Pc h) h (fun y4 σ5 e6 h => ?_)
    try dsimp only at h
    refine X_if_eq 29 (dk KX8_sealed 7 rfl) (by decide) (fun hc => ?_) (fun hc => ?_)
    · have h := hO_t hc h
      refine X_iconst (dk KX8_sealed 13 rfl) (-1) (by decide) ?_
      exact Y_iret (dk KX8_sealed 14 rfl) rfl h
    · have h := hO_f hc h
      refine X_aload_n 0 rfl (dk KX8_sealed 8 rfl) ?_
      refine Y_getR 25 fX8_35 (Nat.le_of_ble_eq_true rfl) rfl rfl (dk KX8_sealed 9 rfl) ?_
      refine X_iload_n 3 rfl (dk KX8_sealed 10 rfl) ?_
      refine Y_callVI wX8_154 (Nat.le_of_ble_eq_true rfl) rfl [.int a3] [] rfl rfl (Nat.le_of_ble_eq_true rfl) (Nat.le_of_ble_eq_true rfl) (dk KX8_sealed 11 rfl) (fun Pc h => okX0_isKnown _ _ Pc h) h (fun y7 σ8 e9 h => ?_)
      try dsimp only at h
      refine X_if_ne 31 (dk KX8_sealed 12 rfl) (by decide) (fun hc => ?_) (fun hc => ?_)
      · have h := hO_f hc h
        refine X_aload_n 0 rfl (dk KX8_sealed 15 rfl) ?_
        refine Y_getR 25 fX8_35 (Nat.le_of_ble_eq_true rfl) rfl rfl (dk KX8_sealed 16 rfl) ?_
        refine X_iload_n 1 rfl (dk KX8_sealed 17 rfl) ?_
        refine X_iload_n 3 rfl (dk KX8_sealed 18 rfl) ?_
        refine Y_callVI wX8_200 (Nat.le_of_ble_eq_true rfl) rfl [.int a1, .int a3] [] rfl rfl (Nat.le_of_ble_eq_true rfl) (Nat.le_of_ble_eq_true rfl) (dk KX8_sealed 19 rfl) (fun Pc h => okX0_firstBroken _ _ _ Pc h) h (fun y10 σ11 e12 h => ?_)
        try dsimp only at h
        refine X_istore [(4, .int y10), (0, .ref 0), (1, .int a1), (2, .int a2), (3, .int a3)] (dk KX8_sealed 20 rfl) (by decide) rfl ?_
        refine X_iload 0 rfl (dk KX8_sealed 21 rfl) ?_
        refine X_iconst (dk KX8_sealed 22 rfl) (-1) (by decide) ?_
        refine X_icmp_eq 62 (dk KX8_sealed 23 rfl) (by decide) (fun hc => ?_) (fun hc => ?_)
        · have h := hO_t hc h
          refine X_iconst (dk KX8_sealed 31 rfl) 1 (by decide) ?_
          refine X_goto 67 (dk KX8_sealed 32 rfl) (by decide) ?_
          exact Y_iret (dk KX8_sealed 34 rfl) rfl h
        · have h := hO_f hc h
          refine X_aload_n 1 rfl (dk KX8_sealed 24 rfl) ?_
          refine Y_getR 25 fX8_35 (Nat.le_of_ble_eq_true rfl) rfl rfl (dk KX8_sealed 25 rfl) ?_
          refine Y_getR 27 fX8_203 (Nat.le_of_ble_eq_true rfl) rfl rfl (dk KX8_sealed 26 rfl) ?_
          refine X_iload 0 rfl (dk KX8_sealed 27 rfl) ?_
          refine Y_iald (Nat.le_of_ble_eq_true rfl) rfl (dk KX8_sealed 28 rfl) h (fun hi13 h => ?_)
          refine X_iload_n 3 rfl (dk KX8_sealed 29 rfl) ?_
          refine X_icmp_le 66 (dk KX8_sealed 30 rfl) (by decide) (fun hc => ?_) (fun hc => ?_)
          · have h := hO_t hc h
            refine X_iconst (dk KX8_sealed 33 rfl) 0 (by decide) ?_
            exact Y_iret (dk KX8_sealed 34 rfl) rfl h
          · have h := hO_f hc h
            refine X_iconst (dk KX8_sealed 31 rfl) 1 (by decide) ?_
            refine X_goto 67 (dk KX8_sealed 32 rfl) (by decide) ?_
            exact Y_iret (dk KX8_sealed 34 rfl) rfl h
      · have h := hO_t hc h
        refine X_iconst (dk KX8_sealed 13 rfl) (-1) (by decide) ?_
        exact Y_iret (dk KX8_sealed 14 rfl) rfl h

def fX8_tolls (a1 : Int32) (a2 : Int32) (a3 : Int32) (σ : PS) : Option (Int32 × PS) := (fX8_isLord a1 σ).bind (fun qy1 => (fun (y1 : Int32) (σ2 : PS) => (if y1 = 0 then some (0, σ2) else (fX8_isDay a2 σ2).bind (fun qy4 => (fun (y4 : Int32) (σ5 : PS) => (if y4 = 0 then some (0, σ5) else (fX0_isKnown a3 σ5).bind (fun qy7 => (fun (y7 : Int32) (σ8 : PS) => (if y7 = 0 then some (0, σ8) else gd (isBk (bkO σ8)) ((fX1_walk (bkO σ8) a3 σ8).bind (fun σ12 => gd (inb a1 5) (gd (inb a2 60) (some ((gi σ12 (rw_ 101 a1) (a2 : Int32).toNatClampNeg), σ12))))))) qy7.1 qy7.2))) qy4.1 qy4.2))) qy1.1 qy1.2)
set_option maxRecDepth 100000 in
set_option maxHeartbeats 4000000 in
theorem okX8_tolls (a1 : Int32) (a2 : Int32) (a3 : Int32) (σ : PS) (P : Int32 × PS → Prop) (h : hO (fX8_tolls a1 a2 a3 σ) P) : CON g mX8_tolls 16 0 0 [.ref 0, .int a1, .int a2, .int a3] (HP σ) (pI P) := by
  refine CON.of (by decide) (by simp [lg_sl, Value.category]) ?_
  show X g _ _ _ _ _ 0 [(0, .ref 0), (1, .int a1), (2, .int a2), (3, .int a3)] [] _
  unfold fX8_tolls at h
  refine X_iload_n 1 rfl (dk KX8_tolls 0 rfl) ?_
  refine Y_callSI wX8_83 [.int a1] [] rfl rfl (Nat.le_of_ble_eq_true rfl) (Nat.le_of_ble_eq_true rfl) (dk KX8_tolls 1 rfl) (fun Pc h => okX8_isLord _ _ Pc h) h (fun y1 σ2 e3 h => ?_)
  try dsimp only at h
  refine X_if_eq 25 (dk KX8_tolls 2 rfl) (by decide) (fun hc => ?_) (fun hc => ?_)
  · have h := hO_t hc h
    refine X_iconst (dk KX8_tolls 11 rfl) 0 (by decide) ?_
    exact Y_iret (dk KX8_tolls 12 rfl) rfl h
  · have h := hO_f hc h
    refine X_iload_n 2 rfl (dk KX8_tolls 3 rfl) ?_
    refine Y_callSI wX8_110 [.int a2] [] rfl rfl (Nat.le_of_ble_eq_true rfl) (Nat.le_of_ble_eq_true rfl) (dk KX8_tolls 4 rfl) (fun Pc h => okX8_isDay _ _ Pc h) h (fun y4 σ5 e6 h => ?_)
    try dsimp only at h
    refine X_if_eq 25 (dk KX8_tolls 5 rfl) (by decide) (fun hc => ?_) (fun hc => ?_)
    · have h := hO_t hc h
      refine X_iconst (dk KX8_tolls 11 rfl) 0 (by decide) ?_
      exact Y_iret (dk KX8_tolls 12 rfl) rfl h
    · have h := hO_f hc h
      refine X_aload_n 0 rfl (dk KX8_tolls 6 rfl) ?_
      refine Y_getR 25 fX8_35 (Nat.le_of_ble_eq_true rfl) rfl rfl (dk KX8_tolls 7 rfl) ?_
      refine X_iload_n 3 rfl (dk KX8_tolls 8 rfl) ?_
      refine Y_callVI wX8_154 (Nat.le_of_ble_eq_true rfl) rfl [.int a3] [] rfl rfl (Nat.le_of_ble_eq_true rfl) (Nat.le_of_ble_eq_true rfl) (dk KX8_tolls 9 rfl) (fun Pc h => okX0_isKnown _ _ Pc h) h (fun y7 σ8 e9 h => ?_)
      try dsimp only at h
      refine X_if_ne 27 (dk KX8_tolls 10 rfl) (by decide) (fun hc => ?_) (fun hc => ?_)
      · have h := hO_f hc h
        refine X_aload_n 0 rfl (dk KX8_tolls 13 rfl) ?_
        refine Y_getR 41 fX8_44 (Nat.le_of_ble_eq_true rfl) rfl rfl (dk KX8_tolls 14 rfl) ?_
        refine X_aload_n 0 rfl (dk KX8_tolls 15 rfl) ?_
        refine Y_getR (bkO σ8) fX8_51 (Nat.le_of_ble_eq_true rfl) rfl rfl (dk KX8_tolls 16 rfl) ?_
        refine Y_guard h (fun hb10 h => ?_)
        refine X_iload_n 3 rfl (dk KX8_tolls 17 rfl) ?_
        refine Y_callVV wX8_158 (Nat.le_of_ble_eq_true rfl) rfl [.ref (bkO σ8), .int a3] [] rfl rfl (Nat.le_of_ble_eq_true rfl) (Nat.le_of_ble_eq_true rfl) (dk KX8_tolls 18 rfl) (fun Pc h => okX1_walk hb10 _ _ Pc h) h (fun σ12 e13 h => ?_)
        try dsimp only at h
        refine X_aload_n 0 rfl (dk KX8_tolls 19 rfl) ?_
        refine Y_getR 41 fX8_44 (Nat.le_of_ble_eq_true rfl) rfl rfl (dk KX8_tolls 20 rfl) ?_
        refine Y_getR 101 fX8_212 (Nat.le_of_ble_eq_true rfl) rfl rfl (dk KX8_tolls 21 rfl) ?_
        refine X_iload_n 1 rfl (dk KX8_tolls 22 rfl) ?_
        refine Y_aald (rw_ 101 a1) (Nat.le_of_ble_eq_true rfl) rfl (gr101_rf _ _) (dk KX8_tolls 23 rfl) h (fun hi14 h => ?_)
        refine X_iload_n 2 rfl (dk KX8_tolls 24 rfl) ?_
        refine Y_iald (gr101_lt hi14) (gr101_ob hi14) (dk KX8_tolls 25 rfl) h (fun hi15 h => ?_)
        exact Y_iret (dk KX8_tolls 26 rfl) rfl h
      · have h := hO_t hc h
        refine X_iconst (dk KX8_tolls 11 rfl) 0 (by decide) ?_
        exact Y_iret (dk KX8_tolls 12 rfl) rfl h

def fX8_crowded_46 : Nat → Int32 → Int32 → PS → Option (Int32 × PS)
  | 0, _, _, _ => none
  | n + 1, x1, x4, σ => (if 60 ≤ x4 then some ((-1), σ) else (fX1_guests x1 x4 0 σ).bind (fun qy14 => (fun (y14 : Int32) (σ15 : PS) => (if y14 ≤ 0 then fX8_crowded_46 n x1 (x4 + 1) σ15 else some (x4, σ15))) qy14.1 qy14.2))
set_option maxRecDepth 100000 in
set_option maxHeartbeats 4000000 in
theorem tX8_crowded_46 {P : Int32 × PS → Prop} : ∀ (n : Nat) (x1 : Int32) (x4 : Int32) (σ : PS), hO (fX8_crowded_46 n x1 x4 σ) P → X g mX8_crowded 16 0 0 (pI P) 46 [(0, .ref 0), (1, .int x1), (4, .int x4)] [] (HP σ) := by
  intro n
  induction n with
  | zero =>
    intro x1 x4 σ h
    rw [fX8_crowded_46] at h
    exact (hO_none h).elim
  | succ n ih =>
    intro x1 x4 σ h
    rw [fX8_crowded_46] at h
    refine X_iload 2 rfl (dk KX8_crowded 23 rfl) ?_
    refine X_bipush (dk KX8_crowded 24 rfl) 60 (by decide) ?_
    refine X_icmp_ge 76 (dk KX8_crowded 25 rfl) (by decide) (fun hc => ?_) (fun hc => ?_)
    · have h := hO_t hc h
      refine X_iconst (dk KX8_crowded 37 rfl) (-1) (by decide) ?_
      exact Y_iret (dk KX8_crowded 38 rfl) rfl h
    · have h := hO_f hc h
      refine X_aload_n 0 rfl (dk KX8_crowded 26 rfl) ?_
      refine Y_getR 41 fX8_44 (Nat.le_of_ble_eq_true rfl) rfl rfl (dk KX8_crowded 27 rfl) ?_
      refine X_iload_n 1 rfl (dk KX8_crowded 28 rfl) ?_
      refine X_iload 2 rfl (dk KX8_crowded 29 rfl) ?_
      refine X_iconst (dk KX8_crowded 30 rfl) 0 (by decide) ?_
      refine Y_callVI wX8_190 (Nat.le_of_ble_eq_true rfl) rfl [.int x1, .int x4, .int 0] [] rfl rfl (Nat.le_of_ble_eq_true rfl) (Nat.le_of_ble_eq_true rfl) (dk KX8_crowded 31 rfl) (fun Pc h => okX1_guests _ _ _ _ Pc h) h (fun y14 σ15 e16 h => ?_)
      try dsimp only at h
      refine X_if_le 70 (dk KX8_crowded 32 rfl) (by decide) (fun hc => ?_) (fun hc => ?_)
      · have h := hO_t hc h
        refine X_iinc 2 1 [(4, .int (x4 + 1)), (0, .ref 0), (1, .int x1)] (dk KX8_crowded 35 rfl) rfl (by decide) (by decide) rfl ?_
        refine X_goto 46 (dk KX8_crowded 36 rfl) (by decide) ?_
        refine X_sub [(0, .ref 0), (1, .int x1), (4, .int (x4 + 1))] [1, 2, 0] rfl ?_
        exact ih x1 (x4 + 1) σ15 h
      · have h := hO_f hc h
        refine X_iload 2 rfl (dk KX8_crowded 33 rfl) ?_
        exact Y_iret (dk KX8_crowded 34 rfl) rfl h
def fX8_crowded (a1 : Int32) (a2 : Int32) (a3 : Int32) (σ : PS) : Option (Int32 × PS) := (fX2_hasInn a1 σ).bind (fun qy1 => (fun (y1 : Int32) (σ2 : PS) => (if y1 = 0 then some ((-1), σ2) else (fX8_isDay a2 σ2).bind (fun qy4 => (fun (y4 : Int32) (σ5 : PS) => (if y4 = 0 then some ((-1), σ5) else (fX0_isKnown a3 σ5).bind (fun qy7 => (fun (y7 : Int32) (σ8 : PS) => (if y7 = 0 then some ((-1), σ8) else gd (isBk (bkO σ8)) ((fX1_walk (bkO σ8) a3 σ8).bind (fun σ12 => fX8_crowded_46 FU a1 a2 σ12)))) qy7.1 qy7.2))) qy4.1 qy4.2))) qy1.1 qy1.2)
set_option maxRecDepth 100000 in
set_option maxHeartbeats 4000000 in
theorem okX8_crowded (a1 : Int32) (a2 : Int32) (a3 : Int32) (σ : PS) (P : Int32 × PS → Prop) (h : hO (fX8_crowded a1 a2 a3 σ) P) : CON g mX8_crowded 16 0 0 [.ref 0, .int a1, .int a2, .int a3] (HP σ) (pI P) := by
  refine CON.of (by decide) (by simp [lg_sl, Value.category]) ?_
  show X g _ _ _ _ _ 0 [(0, .ref 0), (1, .int a1), (2, .int a2), (3, .int a3)] [] _
  unfold fX8_crowded at h
  refine X_aload_n 0 rfl (dk KX8_crowded 0 rfl) ?_
  refine Y_getR 3 fX8_31 (Nat.le_of_ble_eq_true rfl) rfl rfl (dk KX8_crowded 1 rfl) ?_
  refine X_iload_n 1 rfl (dk KX8_crowded 2 rfl) ?_
  refine Y_callVI wX8_97 (Nat.le_of_ble_eq_true rfl) rfl [.int a1] [] rfl rfl (Nat.le_of_ble_eq_true rfl) (Nat.le_of_ble_eq_true rfl) (dk KX8_crowded 3 rfl) (fun Pc h => okX2_hasInn _ _ Pc h) h (fun y1 σ2 e3 h => ?_)
  try dsimp only at h
  refine X_if_eq 29 (dk KX8_crowded 4 rfl) (by decide) (fun hc => ?_) (fun hc => ?_)
  · have h := hO_t hc h
    refine X_iconst (dk KX8_crowded 13 rfl) (-1) (by decide) ?_
    exact Y_iret (dk KX8_crowded 14 rfl) rfl h
  · have h := hO_f hc h
    refine X_iload_n 2 rfl (dk KX8_crowded 5 rfl) ?_
    refine Y_callSI wX8_110 [.int a2] [] rfl rfl (Nat.le_of_ble_eq_true rfl) (Nat.le_of_ble_eq_true rfl) (dk KX8_crowded 6 rfl) (fun Pc h => okX8_isDay _ _ Pc h) h (fun y4 σ5 e6 h => ?_)
    try dsimp only at h
    refine X_if_eq 29 (dk KX8_crowded 7 rfl) (by decide) (fun hc => ?_) (fun hc => ?_)
    · have h := hO_t hc h
      refine X_iconst (dk KX8_crowded 13 rfl) (-1) (by decide) ?_
      exact Y_iret (dk KX8_crowded 14 rfl) rfl h
    · have h := hO_f hc h
      refine X_aload_n 0 rfl (dk KX8_crowded 8 rfl) ?_
      refine Y_getR 25 fX8_35 (Nat.le_of_ble_eq_true rfl) rfl rfl (dk KX8_crowded 9 rfl) ?_
      refine X_iload_n 3 rfl (dk KX8_crowded 10 rfl) ?_
      refine Y_callVI wX8_154 (Nat.le_of_ble_eq_true rfl) rfl [.int a3] [] rfl rfl (Nat.le_of_ble_eq_true rfl) (Nat.le_of_ble_eq_true rfl) (dk KX8_crowded 11 rfl) (fun Pc h => okX0_isKnown _ _ Pc h) h (fun y7 σ8 e9 h => ?_)
      try dsimp only at h
      refine X_if_ne 31 (dk KX8_crowded 12 rfl) (by decide) (fun hc => ?_) (fun hc => ?_)
      · have h := hO_f hc h
        refine X_aload_n 0 rfl (dk KX8_crowded 15 rfl) ?_
        refine Y_getR 41 fX8_44 (Nat.le_of_ble_eq_true rfl) rfl rfl (dk KX8_crowded 16 rfl) ?_
        refine X_aload_n 0 rfl (dk KX8_crowded 17 rfl) ?_
        refine Y_getR (bkO σ8) fX8_51 (Nat.le_of_ble_eq_true rfl) rfl rfl (dk KX8_crowded 18 rfl) ?_
        refine Y_guard h (fun hb10 h => ?_)
        refine X_iload_n 3 rfl (dk KX8_crowded 19 rfl) ?_
        refine Y_callVV wX8_158 (Nat.le_of_ble_eq_true rfl) rfl [.ref (bkO σ8), .int a3] [] rfl rfl (Nat.le_of_ble_eq_true rfl) (Nat.le_of_ble_eq_true rfl) (dk KX8_crowded 20 rfl) (fun Pc h => okX1_walk hb10 _ _ Pc h) h (fun σ12 e13 h => ?_)
        try dsimp only at h
        refine X_iload_n 2 rfl (dk KX8_crowded 21 rfl) ?_
        refine X_istore [(4, .int a2), (0, .ref 0), (1, .int a1), (2, .int a2), (3, .int a3)] (dk KX8_crowded 22 rfl) (by decide) rfl ?_
        refine X_sub [(0, .ref 0), (1, .int a1), (4, .int a2)] [1, 2, 0] rfl ?_
        exact tX8_crowded_46 FU a1 a2 σ12 h
      · have h := hO_t hc h
        refine X_iconst (dk KX8_crowded 13 rfl) (-1) (by decide) ?_
        exact Y_iret (dk KX8_crowded 14 rfl) rfl h

def fX8_count (a1 : Int32) (σ : PS) : Option (Int32 × PS) := (if a1 = 0 then some ((gi σ 3 0), σ) else (if a1 = 1 then some ((gi σ 3 6), σ) else (if a1 = 2 then some ((gi σ 3 14), σ) else (if a1 = 3 then some ((gi σ 25 0), σ) else (if a1 = 4 then gd (isBk (bkO σ)) (some ((gi σ (bkO σ) 7), σ)) else (if a1 = 5 then some ((gi σ 1 1), σ) else some ((-1), σ)))))))
set_option maxRecDepth 100000 in
set_option maxHeartbeats 4000000 in
theorem okX8_count (a1 : Int32) (σ : PS) (P : Int32 × PS → Prop) (h : hO (fX8_count a1 σ) P) : CON g mX8_count 0 0 0 [.ref 0, .int a1] (HP σ) (pI P) := by
  refine CON.of (by decide) (by simp [lg_sl, Value.category]) ?_
  show X g _ _ _ _ _ 0 [(0, .ref 0), (1, .int a1)] [] _
  unfold fX8_count at h
  refine X_iload_n 1 rfl (dk KX8_count 0 rfl) ?_
  by_cases hs0 : a1 = (0 : Int32)
  · have h := hO_t hs0 h
    refine Y_tab 0 hs0 40 (dk KX8_count 1 rfl) (by decide) (by decide) rfl (by decide) ?_
    refine X_aload_n 0 rfl (dk KX8_count 2 rfl) ?_
    refine Y_getR 3 fX8_31 (Nat.le_of_ble_eq_true rfl) rfl rfl (dk KX8_count 3 rfl) ?_
    refine Y_getI fX8_80 (Nat.le_of_ble_eq_true rfl) rfl (dk KX8_count 4 rfl) ?_
    exact Y_iret (dk KX8_count 5 rfl) rfl h
  have h := hO_f hs0 h
  by_cases hs1 : a1 = (1 : Int32)
  · have h := hO_t hs1 h
    refine Y_tab 1 hs1 48 (dk KX8_count 1 rfl) (by decide) (by decide) rfl (by decide) ?_
    refine X_aload_n 0 rfl (dk KX8_count 6 rfl) ?_
    refine Y_getR 3 fX8_31 (Nat.le_of_ble_eq_true rfl) rfl rfl (dk KX8_count 7 rfl) ?_
    refine Y_getI fX8_107 (Nat.le_of_ble_eq_true rfl) rfl (dk KX8_count 8 rfl) ?_
    exact Y_iret (dk KX8_count 9 rfl) rfl h
  have h := hO_f hs1 h
  by_cases hs2 : a1 = (2 : Int32)
  · have h := hO_t hs2 h
    refine Y_tab 2 hs2 56 (dk KX8_count 1 rfl) (by decide) (by decide) rfl (by decide) ?_
    refine X_aload_n 0 rfl (dk KX8_count 10 rfl) ?_
    refine Y_getR 3 fX8_31 (Nat.le_of_ble_eq_true rfl) rfl rfl (dk KX8_count 11 rfl) ?_
    refine Y_getI fX8_131 (Nat.le_of_ble_eq_true rfl) rfl (dk KX8_count 12 rfl) ?_
    exact Y_iret (dk KX8_count 13 rfl) rfl h
  have h := hO_f hs2 h
  by_cases hs3 : a1 = (3 : Int32)
  · have h := hO_t hs3 h
    refine Y_tab 3 hs3 64 (dk KX8_count 1 rfl) (by decide) (by decide) rfl (by decide) ?_
    refine X_aload_n 0 rfl (dk KX8_count 14 rfl) ?_
    refine Y_getR 25 fX8_35 (Nat.le_of_ble_eq_true rfl) rfl rfl (dk KX8_count 15 rfl) ?_
    refine Y_getI fX8_215 (Nat.le_of_ble_eq_true rfl) rfl (dk KX8_count 16 rfl) ?_
    exact Y_iret (dk KX8_count 17 rfl) rfl h
  have h := hO_f hs3 h
  by_cases hs4 : a1 = (4 : Int32)
  · have h := hO_t hs4 h
    refine Y_tab 4 hs4 72 (dk KX8_count 1 rfl) (by decide) (by decide) rfl (by decide) ?_
    refine X_aload_n 0 rfl (dk KX8_count 18 rfl) ?_
    refine Y_getR (bkO σ) fX8_51 (Nat.le_of_ble_eq_true rfl) rfl rfl (dk KX8_count 19 rfl) ?_
    refine Y_guard h (fun hb1 h => ?_)
    refine Y_getI fX8_217 (bk_lt hb1) (bk_ob hb1) (dk KX8_count 20 rfl) ?_
    exact Y_iret (dk KX8_count 21 rfl) rfl h
  have h := hO_f hs4 h
  by_cases hs5 : a1 = (5 : Int32)
  · have h := hO_t hs5 h
    refine Y_tab 5 hs5 80 (dk KX8_count 1 rfl) (by decide) (by decide) rfl (by decide) ?_
    refine X_aload_n 0 rfl (dk KX8_count 22 rfl) ?_
    refine Y_getR 1 fX8_18 (Nat.le_of_ble_eq_true rfl) rfl rfl (dk KX8_count 23 rfl) ?_
    refine Y_getI fX8_58 (Nat.le_of_ble_eq_true rfl) rfl (dk KX8_count 24 rfl) ?_
    exact Y_iret (dk KX8_count 25 rfl) rfl h
  have h := hO_f hs5 h
  refine X_tableOut 88 (dk KX8_count 1 rfl) (sw_out_0_5 hs0 hs1 hs2 hs3 hs4 hs5) (by decide) ?_
  refine X_iconst (dk KX8_count 26 rfl) (-1) (by decide) ?_
  exact Y_iret (dk KX8_count 27 rfl) rfl h

end G
