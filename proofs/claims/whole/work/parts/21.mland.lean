section G
variable {g : GP}
def fX9_isInn (a1 : Int32) (σ : PS) : Option (Int32 × PS) := (if a1 < 0 then some (0, σ) else (if (gi σ 132 38) ≤ a1 then some (0, σ) else some (1, σ)))
set_option maxRecDepth 100000 in
set_option maxHeartbeats 4000000 in
theorem okX9_isInn (a1 : Int32) (σ : PS) (P : Int32 × PS → Prop) (h : hO (fX9_isInn a1 σ) P) : CON g mX9_isInn 0 0 0 [.ref 132, .int a1] (HP σ) (pI P) := by
  refine CON.of (by decide) (by simp [lg_sl, Value.category]) ?_
  show X g _ _ _ _ _ 0 [(0, .ref 132), (1, .int a1)] [] _
  unfold fX9_isInn at h
  refine X_iload_n 1 rfl (dk KX9_isInn 0 rfl) ?_
  refine X_if_lt 16 (dk KX9_isInn 1 rfl) (by decide) (fun hc => ?_) (fun hc => ?_)
  · have h := hO_t hc h
    refine X_iconst (dk KX9_isInn 8 rfl) 0 (by decide) ?_
    exact Y_zret (dk KX9_isInn 9 rfl) rfl (by decide) h
  · have h := hO_f hc h
    refine X_iload_n 1 rfl (dk KX9_isInn 2 rfl) ?_
    refine X_aload_n 0 rfl (dk KX9_isInn 3 rfl) ?_
    refine Y_getI fX9_309 (Nat.le_of_ble_eq_true rfl) rfl (dk KX9_isInn 4 rfl) ?_
    refine X_icmp_ge 16 (dk KX9_isInn 5 rfl) (by decide) (fun hc => ?_) (fun hc => ?_)
    · have h := hO_t hc h
      refine X_iconst (dk KX9_isInn 8 rfl) 0 (by decide) ?_
      exact Y_zret (dk KX9_isInn 9 rfl) rfl (by decide) h
    · have h := hO_f hc h
      refine X_iconst (dk KX9_isInn 6 rfl) 1 (by decide) ?_
      refine X_goto 17 (dk KX9_isInn 7 rfl) (by decide) ?_
      exact Y_zret (dk KX9_isInn 9 rfl) rfl (by decide) h

def fX9_isCaravan (a1 : Int32) (σ : PS) : Option (Int32 × PS) := (if a1 < 0 then some (0, σ) else (if (gi σ 132 44) ≤ a1 then some (0, σ) else some (1, σ)))
set_option maxRecDepth 100000 in
set_option maxHeartbeats 4000000 in
theorem okX9_isCaravan (a1 : Int32) (σ : PS) (P : Int32 × PS → Prop) (h : hO (fX9_isCaravan a1 σ) P) : CON g mX9_isCaravan 0 0 0 [.ref 132, .int a1] (HP σ) (pI P) := by
  refine CON.of (by decide) (by simp [lg_sl, Value.category]) ?_
  show X g _ _ _ _ _ 0 [(0, .ref 132), (1, .int a1)] [] _
  unfold fX9_isCaravan at h
  refine X_iload_n 1 rfl (dk KX9_isCaravan 0 rfl) ?_
  refine X_if_lt 16 (dk KX9_isCaravan 1 rfl) (by decide) (fun hc => ?_) (fun hc => ?_)
  · have h := hO_t hc h
    refine X_iconst (dk KX9_isCaravan 8 rfl) 0 (by decide) ?_
    exact Y_zret (dk KX9_isCaravan 9 rfl) rfl (by decide) h
  · have h := hO_f hc h
    refine X_iload_n 1 rfl (dk KX9_isCaravan 2 rfl) ?_
    refine X_aload_n 0 rfl (dk KX9_isCaravan 3 rfl) ?_
    refine Y_getI fX9_312 (Nat.le_of_ble_eq_true rfl) rfl (dk KX9_isCaravan 4 rfl) ?_
    refine X_icmp_ge 16 (dk KX9_isCaravan 5 rfl) (by decide) (fun hc => ?_) (fun hc => ?_)
    · have h := hO_t hc h
      refine X_iconst (dk KX9_isCaravan 8 rfl) 0 (by decide) ?_
      exact Y_zret (dk KX9_isCaravan 9 rfl) rfl (by decide) h
    · have h := hO_f hc h
      refine X_iconst (dk KX9_isCaravan 6 rfl) 1 (by decide) ?_
      refine X_goto 17 (dk KX9_isCaravan 7 rfl) (by decide) ?_
      exact Y_zret (dk KX9_isCaravan 9 rfl) rfl (by decide) h

def fX9_isDay (a0 : Int32) (σ : PS) : Option (Int32 × PS) := (if a0 < 0 then some (0, σ) else (if 60 ≤ a0 then some (0, σ) else some (1, σ)))
set_option maxRecDepth 100000 in
set_option maxHeartbeats 4000000 in
theorem okX9_isDay (a0 : Int32) (σ : PS) (P : Int32 × PS → Prop) (h : hO (fX9_isDay a0 σ) P) : CON g mX9_isDay 0 0 0 [.int a0] (HP σ) (pI P) := by
  refine CON.of (by decide) (by simp [lg_sl, Value.category]) ?_
  show X g _ _ _ _ _ 0 [(0, .int a0)] [] _
  unfold fX9_isDay at h
  refine X_iload_n 0 rfl (dk KX9_isDay 0 rfl) ?_
  refine X_if_lt 14 (dk KX9_isDay 1 rfl) (by decide) (fun hc => ?_) (fun hc => ?_)
  · have h := hO_t hc h
    refine X_iconst (dk KX9_isDay 7 rfl) 0 (by decide) ?_
    exact Y_zret (dk KX9_isDay 8 rfl) rfl (by decide) h
  · have h := hO_f hc h
    refine X_iload_n 0 rfl (dk KX9_isDay 2 rfl) ?_
    refine X_bipush (dk KX9_isDay 3 rfl) 60 (by decide) ?_
    refine X_icmp_ge 14 (dk KX9_isDay 4 rfl) (by decide) (fun hc => ?_) (fun hc => ?_)
    · have h := hO_t hc h
      refine X_iconst (dk KX9_isDay 7 rfl) 0 (by decide) ?_
      exact Y_zret (dk KX9_isDay 8 rfl) rfl (by decide) h
    · have h := hO_f hc h
      refine X_iconst (dk KX9_isDay 5 rfl) 1 (by decide) ?_
      refine X_goto 15 (dk KX9_isDay 6 rfl) (by decide) ?_
      exact Y_zret (dk KX9_isDay 8 rfl) rfl (by decide) h

def fX9_isKnown (a1 : Int32) (σ : PS) : Option (Int32 × PS) := (if a1 < 0 then some (0, σ) else (if (gi σ 132 54) < a1 then some (0, σ) else some (1, σ)))
set_option maxRecDepth 100000 in
set_option maxHeartbeats 4000000 in
theorem okX9_isKnown (a1 : Int32) (σ : PS) (P : Int32 × PS → Prop) (h : hO (fX9_isKnown a1 σ) P) : CON g mX9_isKnown 0 0 0 [.ref 132, .int a1] (HP σ) (pI P) := by
  refine CON.of (by decide) (by simp [lg_sl, Value.category]) ?_
  show X g _ _ _ _ _ 0 [(0, .ref 132), (1, .int a1)] [] _
  unfold fX9_isKnown at h
  refine X_iload_n 1 rfl (dk KX9_isKnown 0 rfl) ?_
  refine X_if_lt 16 (dk KX9_isKnown 1 rfl) (by decide) (fun hc => ?_) (fun hc => ?_)
  · have h := hO_t hc h
    refine X_iconst (dk KX9_isKnown 8 rfl) 0 (by decide) ?_
    exact Y_zret (dk KX9_isKnown 9 rfl) rfl (by decide) h
  · have h := hO_f hc h
    refine X_iload_n 1 rfl (dk KX9_isKnown 2 rfl) ?_
    refine X_aload_n 0 rfl (dk KX9_isKnown 3 rfl) ?_
    refine Y_getI fX9_315 (Nat.le_of_ble_eq_true rfl) rfl (dk KX9_isKnown 4 rfl) ?_
    refine X_icmp_gt 16 (dk KX9_isKnown 5 rfl) (by decide) (fun hc => ?_) (fun hc => ?_)
    · have h := hO_t hc h
      refine X_iconst (dk KX9_isKnown 8 rfl) 0 (by decide) ?_
      exact Y_zret (dk KX9_isKnown 9 rfl) rfl (by decide) h
    · have h := hO_f hc h
      refine X_iconst (dk KX9_isKnown 6 rfl) 1 (by decide) ?_
      refine X_goto 17 (dk KX9_isKnown 7 rfl) (by decide) ?_
      exact Y_zret (dk KX9_isKnown 9 rfl) rfl (by decide) h

def fX9_inn (a1 : Int32) (a2 : Int32) (a3 : Int32) (σ : PS) : Option (Int32 × PS) := (if (gi σ 132 38) = 8 then some ((-1), σ) else (if a1 < 0 then some ((-1), σ) else (if 4 < a1 then some ((-1), σ) else (if a2 < 0 then some ((-1), σ) else (if 60 < a2 then some ((-1), σ) else (if a3 < 0 then some ((-1), σ) else (if a3 ≤ 60 then gd (inb (gi σ 132 38) 8) (gd (inb (gi (sI σ 156 ((gi σ 132 38) : Int32).toNatClampNeg a1) 132 38) 8) (gd (inb (gi (sI (sI σ 156 ((gi σ 132 38) : Int32).toNatClampNeg a1) 157 ((gi (sI σ 156 ((gi σ 132 38) : Int32).toNatClampNeg a1) 132 38) : Int32).toNatClampNeg a2) 132 38) 8) (gd (inb (gi (sI (sI (sI σ 156 ((gi σ 132 38) : Int32).toNatClampNeg a1) 157 ((gi (sI σ 156 ((gi σ 132 38) : Int32).toNatClampNeg a1) 132 38) : Int32).toNatClampNeg a2) 158 ((gi (sI (sI σ 156 ((gi σ 132 38) : Int32).toNatClampNeg a1) 157 ((gi (sI σ 156 ((gi σ 132 38) : Int32).toNatClampNeg a1) 132 38) : Int32).toNatClampNeg a2) 132 38) : Int32).toNatClampNeg a3) 132 38) 8) (some (((gi (sI (sI (sI (sI (sI (sI σ 156 ((gi σ 132 38) : Int32).toNatClampNeg a1) 157 ((gi (sI σ 156 ((gi σ 132 38) : Int32).toNatClampNeg a1) 132 38) : Int32).toNatClampNeg a2) 158 ((gi (sI (sI σ 156 ((gi σ 132 38) : Int32).toNatClampNeg a1) 157 ((gi (sI σ 156 ((gi σ 132 38) : Int32).toNatClampNeg a1) 132 38) : Int32).toNatClampNeg a2) 132 38) : Int32).toNatClampNeg a3) 159 ((gi (sI (sI (sI σ 156 ((gi σ 132 38) : Int32).toNatClampNeg a1) 157 ((gi (sI σ 156 ((gi σ 132 38) : Int32).toNatClampNeg a1) 132 38) : Int32).toNatClampNeg a2) 158 ((gi (sI (sI σ 156 ((gi σ 132 38) : Int32).toNatClampNeg a1) 157 ((gi (sI σ 156 ((gi σ 132 38) : Int32).toNatClampNeg a1) 132 38) : Int32).toNatClampNeg a2) 132 38) : Int32).toNatClampNeg a3) 132 38) : Int32).toNatClampNeg 0) 132 38 ((gi (sI (sI (sI (sI σ 156 ((gi σ 132 38) : Int32).toNatClampNeg a1) 157 ((gi (sI σ 156 ((gi σ 132 38) : Int32).toNatClampNeg a1) 132 38) : Int32).toNatClampNeg a2) 158 ((gi (sI (sI σ 156 ((gi σ 132 38) : Int32).toNatClampNeg a1) 157 ((gi (sI σ 156 ((gi σ 132 38) : Int32).toNatClampNeg a1) 132 38) : Int32).toNatClampNeg a2) 132 38) : Int32).toNatClampNeg a3) 159 ((gi (sI (sI (sI σ 156 ((gi σ 132 38) : Int32).toNatClampNeg a1) 157 ((gi (sI σ 156 ((gi σ 132 38) : Int32).toNatClampNeg a1) 132 38) : Int32).toNatClampNeg a2) 158 ((gi (sI (sI σ 156 ((gi σ 132 38) : Int32).toNatClampNeg a1) 157 ((gi (sI σ 156 ((gi σ 132 38) : Int32).toNatClampNeg a1) 132 38) : Int32).toNatClampNeg a2) 132 38) : Int32).toNatClampNeg a3) 132 38) : Int32).toNatClampNeg 0) 132 38) + 1)) 132 58 (-1)) 132 38) - 1), (sI (sI (sI (sI (sI (sI σ 156 ((gi σ 132 38) : Int32).toNatClampNeg a1) 157 ((gi (sI σ 156 ((gi σ 132 38) : Int32).toNatClampNeg a1) 132 38) : Int32).toNatClampNeg a2) 158 ((gi (sI (sI σ 156 ((gi σ 132 38) : Int32).toNatClampNeg a1) 157 ((gi (sI σ 156 ((gi σ 132 38) : Int32).toNatClampNeg a1) 132 38) : Int32).toNatClampNeg a2) 132 38) : Int32).toNatClampNeg a3) 159 ((gi (sI (sI (sI σ 156 ((gi σ 132 38) : Int32).toNatClampNeg a1) 157 ((gi (sI σ 156 ((gi σ 132 38) : Int32).toNatClampNeg a1) 132 38) : Int32).toNatClampNeg a2) 158 ((gi (sI (sI σ 156 ((gi σ 132 38) : Int32).toNatClampNeg a1) 157 ((gi (sI σ 156 ((gi σ 132 38) : Int32).toNatClampNeg a1) 132 38) : Int32).toNatClampNeg a2) 132 38) : Int32).toNatClampNeg a3) 132 38) : Int32).toNatClampNeg 0) 132 38 ((gi (sI (sI (sI (sI σ 156 ((gi σ 132 38) : Int32).toNatClampNeg a1) 157 ((gi (sI σ 156 ((gi σ 132 38) : Int32).toNatClampNeg a1) 132 38) : Int32).toNatClampNeg a2) 158 ((gi (sI (sI σ 156 ((gi σ 132 38) : Int32).toNatClampNeg a1) 157 ((gi (sI σ 156 ((gi σ 132 38) : Int32).toNatClampNeg a1) 132 38) : Int32).toNatClampNeg a2) 132 38) : Int32).toNatClampNeg a3) 159 ((gi (sI (sI (sI σ 156 ((gi σ 132 38) : Int32).toNatClampNeg a1) 157 ((gi (sI σ 156 ((gi σ 132 38) : Int32).toNatClampNeg a1) 132 38) : Int32).toNatClampNeg a2) 158 ((gi (sI (sI σ 156 ((gi σ 132 38) : Int32).toNatClampNeg a1) 157 ((gi (sI σ 156 ((gi σ 132 38) : Int32).toNatClampNeg a1) 132 38) : Int32).toNatClampNeg a2) 132 38) : Int32).toNatClampNeg a3) 132 38) : Int32).toNatClampNeg 0) 132 38) + 1)) 132 58 (-1))))))) else some ((-1), σ))))))))
set_option maxRecDepth 100000 in
set_option maxHeartbeats 4000000 in
theorem okX9_inn (a1 : Int32) (a2 : Int32) (a3 : Int32) (σ : PS) (P : Int32 × PS → Prop) (h : hO (fX9_inn a1 a2 a3 σ) P) : CON g mX9_inn 0 0 0 [.ref 132, .int a1, .int a2, .int a3] (HP σ) (pI P) := by
  refine CON.of (by decide) (by simp [lg_sl, Value.category]) ?_
  show X g _ _ _ _ _ 0 [(0, .ref 132), (1, .int a1), (2, .int a2), (3, .int a3)] [] _
  unfold fX9_inn at h
  refine X_aload_n 0 rfl (dk KX9_inn 0 rfl) ?_
  refine Y_getI fX9_309 (Nat.le_of_ble_eq_true rfl) rfl (dk KX9_inn 1 rfl) ?_
  refine X_bipush (dk KX9_inn 2 rfl) 8 (by decide) ?_
  refine X_icmp_eq 38 (dk KX9_inn 3 rfl) (by decide) (fun hc => ?_) (fun hc => ?_)
  · have h := hO_t hc h
    refine X_iconst (dk KX9_inn 19 rfl) (-1) (by decide) ?_
    exact Y_iret (dk KX9_inn 20 rfl) rfl h
  · have h := hO_f hc h
    refine X_iload_n 1 rfl (dk KX9_inn 4 rfl) ?_
    refine X_if_lt 38 (dk KX9_inn 5 rfl) (by decide) (fun hc => ?_) (fun hc => ?_)
    · have h := hO_t hc h
      refine X_iconst (dk KX9_inn 19 rfl) (-1) (by decide) ?_
      exact Y_iret (dk KX9_inn 20 rfl) rfl h
    · have h := hO_f hc h
      refine X_iload_n 1 rfl (dk KX9_inn 6 rfl) ?_
      refine X_iconst (dk KX9_inn 7 rfl) 4 (by decide) ?_
      refine X_icmp_gt 38 (dk KX9_inn 8 rfl) (by decide) (fun hc => ?_) (fun hc => ?_)
      · have h := hO_t hc h
        refine X_iconst (dk KX9_inn 19 rfl) (-1) (by decide) ?_
        exact Y_iret (dk KX9_inn 20 rfl) rfl h
      · have h := hO_f hc h
        refine X_iload_n 2 rfl (dk KX9_inn 9 rfl) ?_
        refine X_if_lt 38 (dk KX9_inn 10 rfl) (by decide) (fun hc => ?_) (fun hc => ?_)
        · have h := hO_t hc h
          refine X_iconst (dk KX9_inn 19 rfl) (-1) (by decide) ?_
          exact Y_iret (dk KX9_inn 20 rfl) rfl h
        · have h := hO_f hc h
          refine X_iload_n 2 rfl (dk KX9_inn 11 rfl) ?_
          refine X_bipush (dk KX9_inn 12 rfl) 60 (by decide) ?_
          refine X_icmp_gt 38 (dk KX9_inn 13 rfl) (by decide) (fun hc => ?_) (fun hc => ?_)
          · have h := hO_t hc h
            refine X_iconst (dk KX9_inn 19 rfl) (-1) (by decide) ?_
            exact Y_iret (dk KX9_inn 20 rfl) rfl h
          · have h := hO_f hc h
            refine X_iload_n 3 rfl (dk KX9_inn 14 rfl) ?_
            refine X_if_lt 38 (dk KX9_inn 15 rfl) (by decide) (fun hc => ?_) (fun hc => ?_)
            · have h := hO_t hc h
              refine X_iconst (dk KX9_inn 19 rfl) (-1) (by decide) ?_
              exact Y_iret (dk KX9_inn 20 rfl) rfl h
            · have h := hO_f hc h
              refine X_iload_n 3 rfl (dk KX9_inn 16 rfl) ?_
              refine X_bipush (dk KX9_inn 17 rfl) 60 (by decide) ?_
              refine X_icmp_le 40 (dk KX9_inn 18 rfl) (by decide) (fun hc => ?_) (fun hc => ?_)
              · have h := hO_t hc h
                refine X_aload_n 0 rfl (dk KX9_inn 21 rfl) ?_
                refine Y_getR 156 fX9_89 (Nat.le_of_ble_eq_true rfl) rfl rfl (dk KX9_inn 22 rfl) ?_
                refine X_aload_n 0 rfl (dk KX9_inn 23 rfl) ?_
                refine Y_getI fX9_309 (Nat.le_of_ble_eq_true rfl) rfl (dk KX9_inn 24 rfl) ?_
                refine X_iload_n 1 rfl (dk KX9_inn 25 rfl) ?_
                refine Y_iast (Nat.le_of_ble_eq_true rfl) rfl (dk KX9_inn 26 rfl) h (fun hi1 h => ?_)
                refine X_aload_n 0 rfl (dk KX9_inn 27 rfl) ?_
                refine Y_getR 157 fX9_92 (Nat.le_of_ble_eq_true rfl) rfl rfl (dk KX9_inn 28 rfl) ?_
                refine X_aload_n 0 rfl (dk KX9_inn 29 rfl) ?_
                refine Y_getI fX9_309 (Nat.le_of_ble_eq_true rfl) rfl (dk KX9_inn 30 rfl) ?_
                refine X_iload_n 2 rfl (dk KX9_inn 31 rfl) ?_
                refine Y_iast (Nat.le_of_ble_eq_true rfl) rfl (dk KX9_inn 32 rfl) h (fun hi2 h => ?_)
                refine X_aload_n 0 rfl (dk KX9_inn 33 rfl) ?_
                refine Y_getR 158 fX9_95 (Nat.le_of_ble_eq_true rfl) rfl rfl (dk KX9_inn 34 rfl) ?_
                refine X_aload_n 0 rfl (dk KX9_inn 35 rfl) ?_
                refine Y_getI fX9_309 (Nat.le_of_ble_eq_true rfl) rfl (dk KX9_inn 36 rfl) ?_
                refine X_iload_n 3 rfl (dk KX9_inn 37 rfl) ?_
                refine Y_iast (Nat.le_of_ble_eq_true rfl) rfl (dk KX9_inn 38 rfl) h (fun hi3 h => ?_)
                refine X_aload_n 0 rfl (dk KX9_inn 39 rfl) ?_
                refine Y_getR 159 fX9_98 (Nat.le_of_ble_eq_true rfl) rfl rfl (dk KX9_inn 40 rfl) ?_
                refine X_aload_n 0 rfl (dk KX9_inn 41 rfl) ?_
                refine Y_getI fX9_309 (Nat.le_of_ble_eq_true rfl) rfl (dk KX9_inn 42 rfl) ?_
                refine X_iconst (dk KX9_inn 43 rfl) 0 (by decide) ?_
                refine Y_iast (Nat.le_of_ble_eq_true rfl) rfl (dk KX9_inn 44 rfl) h (fun hi4 h => ?_)
                refine X_aload_n 0 rfl (dk KX9_inn 45 rfl) ?_
                refine X_dup (dk KX9_inn 46 rfl) rfl ?_
                refine Y_getI fX9_309 (Nat.le_of_ble_eq_true rfl) rfl (dk KX9_inn 47 rfl) ?_
                refine X_iconst (dk KX9_inn 48 rfl) 1 (by decide) ?_
                refine X_iadd (dk KX9_inn 49 rfl) ?_
                refine Y_putI fX9_309 rfl (Nat.le_of_ble_eq_true rfl) rfl (dk KX9_inn 50 rfl) ?_
                refine X_aload_n 0 rfl (dk KX9_inn 51 rfl) ?_
                refine X_iconst (dk KX9_inn 52 rfl) (-1) (by decide) ?_
                refine Y_putI fX9_137 rfl (Nat.le_of_ble_eq_true rfl) rfl (dk KX9_inn 53 rfl) ?_
                refine X_aload_n 0 rfl (dk KX9_inn 54 rfl) ?_
                refine Y_getI fX9_309 (Nat.le_of_ble_eq_true rfl) rfl (dk KX9_inn 55 rfl) ?_
                refine X_iconst (dk KX9_inn 56 rfl) 1 (by decide) ?_
                refine X_isub (dk KX9_inn 57 rfl) ?_
                exact Y_iret (dk KX9_inn 58 rfl) rfl h
              · have h := hO_f hc h
                refine X_iconst (dk KX9_inn 19 rfl) (-1) (by decide) ?_
                exact Y_iret (dk KX9_inn 20 rfl) rfl h

def fX9_room (a1 : Int32) (a2 : Int32) (σ : PS) : Option (Int32 × PS) := (fX9_isInn a1 σ).bind (fun qy1 => (fun (y1 : Int32) (σ2 : PS) => (if y1 = 0 then some ((-1), σ2) else gd (inb a1 8) ((if (gi σ2 159 (a1 : Int32).toNatClampNeg) = 3 then some ((-1), σ2) else (if a2 < 1 then some ((-1), σ2) else (if a2 ≤ 20 then gd (inb a1 8) (gd (inb ((3 * a1) + (gi σ2 159 (a1 : Int32).toNatClampNeg)) 24) (gd (inb a1 8) (gd (inb a1 8) (gd (inb a1 8) (some (((gi (sI (sI (sI σ2 160 (((3 * a1) + (gi σ2 159 (a1 : Int32).toNatClampNeg)) : Int32).toNatClampNeg a2) 159 (a1 : Int32).toNatClampNeg ((gi (sI σ2 160 (((3 * a1) + (gi σ2 159 (a1 : Int32).toNatClampNeg)) : Int32).toNatClampNeg a2) 159 (a1 : Int32).toNatClampNeg) + 1)) 132 58 (-1)) 159 (a1 : Int32).toNatClampNeg) - 1), (sI (sI (sI σ2 160 (((3 * a1) + (gi σ2 159 (a1 : Int32).toNatClampNeg)) : Int32).toNatClampNeg a2) 159 (a1 : Int32).toNatClampNeg ((gi (sI σ2 160 (((3 * a1) + (gi σ2 159 (a1 : Int32).toNatClampNeg)) : Int32).toNatClampNeg a2) 159 (a1 : Int32).toNatClampNeg) + 1)) 132 58 (-1)))))))) else some ((-1), σ2))))))) qy1.1 qy1.2)
set_option maxRecDepth 100000 in
set_option maxHeartbeats 4000000 in
theorem okX9_room (a1 : Int32) (a2 : Int32) (σ : PS) (P : Int32 × PS → Prop) (h : hO (fX9_room a1 a2 σ) P) : CON g mX9_room 1 0 0 [.ref 132, .int a1, .int a2] (HP σ) (pI P) := by
  refine CON.of (by decide) (by simp [lg_sl, Value.category]) ?_
  show X g _ _ _ _ _ 0 [(0, .ref 132), (1, .int a1), (2, .int a2)] [] _
  unfold fX9_room at h
  refine X_aload_n 0 rfl (dk KX9_room 0 rfl) ?_
  refine X_iload_n 1 rfl (dk KX9_room 1 rfl) ?_
  refine Y_callVI wX9_318 (Nat.le_of_ble_eq_true rfl) rfl [.int a1] [] rfl rfl (Nat.le_of_ble_eq_true rfl) (Nat.le_of_ble_eq_true rfl) (dk KX9_room 2 rfl) (fun Pc h => okX9_isInn _ _ Pc h) h (fun y1 σ2 e3 h => ?_)
  try dsimp only at h
  refine X_if_eq 29 (dk KX9_room 3 rfl) (by decide) (fun hc => ?_) (fun hc => ?_)
  · have h := hO_t hc h
    refine X_iconst (dk KX9_room 16 rfl) (-1) (by decide) ?_
    exact Y_iret (dk KX9_room 17 rfl) rfl h
  · have h := hO_f hc h
    refine X_aload_n 0 rfl (dk KX9_room 4 rfl) ?_
    refine Y_getR 159 fX9_98 (Nat.le_of_ble_eq_true rfl) rfl rfl (dk KX9_room 5 rfl) ?_
    refine X_iload_n 1 rfl (dk KX9_room 6 rfl) ?_
    refine Y_iald (Nat.le_of_ble_eq_true rfl) rfl (dk KX9_room 7 rfl) h (fun hi4 h => ?_)
    refine X_iconst (dk KX9_room 8 rfl) 3 (by decide) ?_
    refine X_icmp_eq 29 (dk KX9_room 9 rfl) (by decide) (fun hc => ?_) (fun hc => ?_)
    · have h := hO_t hc h
      refine X_iconst (dk KX9_room 16 rfl) (-1) (by decide) ?_
      exact Y_iret (dk KX9_room 17 rfl) rfl h
    · have h := hO_f hc h
      refine X_iload_n 2 rfl (dk KX9_room 10 rfl) ?_
      refine X_iconst (dk KX9_room 11 rfl) 1 (by decide) ?_
      refine X_icmp_lt 29 (dk KX9_room 12 rfl) (by decide) (fun hc => ?_) (fun hc => ?_)
      · have h := hO_t hc h
        refine X_iconst (dk KX9_room 16 rfl) (-1) (by decide) ?_
        exact Y_iret (dk KX9_room 17 rfl) rfl h
      · have h := hO_f hc h
        refine X_iload_n 2 rfl (dk KX9_room 13 rfl) ?_
        refine X_bipush (dk KX9_room 14 rfl) 20 (by decide) ?_
        refine X_icmp_le 31 (dk KX9_room 15 rfl) (by decide) (fun hc => ?_) (fun hc => ?_)
        · have h := hO_t hc h
          refine X_aload_n 0 rfl (dk KX9_room 18 rfl) ?_
          refine Y_getR 160 fX9_101 (Nat.le_of_ble_eq_true rfl) rfl rfl (dk KX9_room 19 rfl) ?_
          refine X_iconst (dk KX9_room 20 rfl) 3 (by decide) ?_
          refine X_iload_n 1 rfl (dk KX9_room 21 rfl) ?_
          refine X_imul (dk KX9_room 22 rfl) ?_
          refine X_aload_n 0 rfl (dk KX9_room 23 rfl) ?_
          refine Y_getR 159 fX9_98 (Nat.le_of_ble_eq_true rfl) rfl rfl (dk KX9_room 24 rfl) ?_
          refine X_iload_n 1 rfl (dk KX9_room 25 rfl) ?_
          refine Y_iald (Nat.le_of_ble_eq_true rfl) rfl (dk KX9_room 26 rfl) h (fun hi5 h => ?_)
          refine X_iadd (dk KX9_room 27 rfl) ?_
          refine X_iload_n 2 rfl (dk KX9_room 28 rfl) ?_
          refine Y_iast (Nat.le_of_ble_eq_true rfl) rfl (dk KX9_room 29 rfl) h (fun hi6 h => ?_)
          refine X_aload_n 0 rfl (dk KX9_room 30 rfl) ?_
          refine Y_getR 159 fX9_98 (Nat.le_of_ble_eq_true rfl) rfl rfl (dk KX9_room 31 rfl) ?_
          refine X_iload_n 1 rfl (dk KX9_room 32 rfl) ?_
          refine X_dup2 (dk KX9_room 33 rfl) rfl rfl ?_
          refine Y_iald (Nat.le_of_ble_eq_true rfl) rfl (dk KX9_room 34 rfl) h (fun hi7 h => ?_)
          refine X_iconst (dk KX9_room 35 rfl) 1 (by decide) ?_
          refine X_iadd (dk KX9_room 36 rfl) ?_
          refine Y_iast (Nat.le_of_ble_eq_true rfl) rfl (dk KX9_room 37 rfl) h (fun hi8 h => ?_)
          refine X_aload_n 0 rfl (dk KX9_room 38 rfl) ?_
          refine X_iconst (dk KX9_room 39 rfl) (-1) (by decide) ?_
          refine Y_putI fX9_137 rfl (Nat.le_of_ble_eq_true rfl) rfl (dk KX9_room 40 rfl) ?_
          refine X_aload_n 0 rfl (dk KX9_room 41 rfl) ?_
          refine Y_getR 159 fX9_98 (Nat.le_of_ble_eq_true rfl) rfl rfl (dk KX9_room 42 rfl) ?_
          refine X_iload_n 1 rfl (dk KX9_room 43 rfl) ?_
          refine Y_iald (Nat.le_of_ble_eq_true rfl) rfl (dk KX9_room 44 rfl) h (fun hi9 h => ?_)
          refine X_iconst (dk KX9_room 45 rfl) 1 (by decide) ?_
          refine X_isub (dk KX9_room 46 rfl) ?_
          exact Y_iret (dk KX9_room 47 rfl) rfl h
        · have h := hO_f hc h
          refine X_iconst (dk KX9_room 16 rfl) (-1) (by decide) ?_
          exact Y_iret (dk KX9_room 17 rfl) rfl h

def fX9_caravan (a1 : Int32) (a2 : Int32) (a3 : Int32) (a4 : Int32) (a5 : Int32) (a6 : Int32) (σ : PS) : Option (Int32 × PS) := (if (gi σ 132 44) = 6 then some ((-1), σ) else (if a1 < 0 then some ((-1), σ) else (if 3 < a1 then some ((-1), σ) else (if a2 < 1 then some ((-1), σ) else (if 30 < a2 then some ((-1), σ) else (if a3 < 1 then some ((-1), σ) else (if 9 < a3 then some ((-1), σ) else (fX9_isInn a4 σ).bind (fun qy1 => (fun (y1 : Int32) (σ2 : PS) => (if y1 = 0 then some ((-1), σ2) else (fX9_isInn a5 σ2).bind (fun qy4 => (fun (y4 : Int32) (σ5 : PS) => (if y4 = 0 then some ((-1), σ5) else (if a4 = a5 then some ((-1), σ5) else (fX9_isDay a6 σ5).bind (fun qy7 => (fun (y7 : Int32) (σ8 : PS) => (if y7 = 0 then some ((-1), σ8) else gd (inb (gi σ8 132 44) 6) (gd (inb (gi (sI σ8 161 ((gi σ8 132 44) : Int32).toNatClampNeg a1) 132 44) 6) (gd (inb (gi (sI (sI σ8 161 ((gi σ8 132 44) : Int32).toNatClampNeg a1) 162 ((gi (sI σ8 161 ((gi σ8 132 44) : Int32).toNatClampNeg a1) 132 44) : Int32).toNatClampNeg a2) 132 44) 6) (gd (inb (gi (sI (sI (sI σ8 161 ((gi σ8 132 44) : Int32).toNatClampNeg a1) 162 ((gi (sI σ8 161 ((gi σ8 132 44) : Int32).toNatClampNeg a1) 132 44) : Int32).toNatClampNeg a2) 163 ((gi (sI (sI σ8 161 ((gi σ8 132 44) : Int32).toNatClampNeg a1) 162 ((gi (sI σ8 161 ((gi σ8 132 44) : Int32).toNatClampNeg a1) 132 44) : Int32).toNatClampNeg a2) 132 44) : Int32).toNatClampNeg a3) 132 44) 6) (gd (inb (gi (sI (sI (sI (sI σ8 161 ((gi σ8 132 44) : Int32).toNatClampNeg a1) 162 ((gi (sI σ8 161 ((gi σ8 132 44) : Int32).toNatClampNeg a1) 132 44) : Int32).toNatClampNeg a2) 163 ((gi (sI (sI σ8 161 ((gi σ8 132 44) : Int32).toNatClampNeg a1) 162 ((gi (sI σ8 161 ((gi σ8 132 44) : Int32).toNatClampNeg a1) 132 44) : Int32).toNatClampNeg a2) 132 44) : Int32).toNatClampNeg a3) 164 ((gi (sI (sI (sI σ8 161 ((gi σ8 132 44) : Int32).toNatClampNeg a1) 162 ((gi (sI σ8 161 ((gi σ8 132 44) : Int32).toNatClampNeg a1) 132 44) : Int32).toNatClampNeg a2) 163 ((gi (sI (sI σ8 161 ((gi σ8 132 44) : Int32).toNatClampNeg a1) 162 ((gi (sI σ8 161 ((gi σ8 132 44) : Int32).toNatClampNeg a1) 132 44) : Int32).toNatClampNeg a2) 132 44) : Int32).toNatClampNeg a3) 132 44) : Int32).toNatClampNeg a4) 132 44) 6) (gd (inb (gi (sI (sI (sI (sI (sI σ8 161 ((gi σ8 132 44) : Int32).toNatClampNeg a1) 162 ((gi (sI σ8 161 ((gi σ8 132 44) : Int32).toNatClampNeg a1) 132 44) : Int32).toNatClampNeg a2) 163 ((gi (sI (sI σ8 161 ((gi σ8 132 44) : Int32).toNatClampNeg a1) 162 ((gi (sI σ8 161 ((gi σ8 132 44) : Int32).toNatClampNeg a1) 132 44) : Int32).toNatClampNeg a2) 132 44) : Int32).toNatClampNeg a3) 164 ((gi (sI (sI (sI σ8 161 ((gi σ8 132 44) : Int32).toNatClampNeg a1) 162 ((gi (sI σ8 161 ((gi σ8 132 44) : Int32).toNatClampNeg a1) 132 44) : Int32).toNatClampNeg a2) 163 ((gi (sI (sI σ8 161 ((gi σ8 132 44) : Int32).toNatClampNeg a1) 162 ((gi (sI σ8 161 ((gi σ8 132 44) : Int32).toNatClampNeg a1) 132 44) : Int32).toNatClampNeg a2) 132 44) : Int32).toNatClampNeg a3) 132 44) : Int32).toNatClampNeg a4) 165 ((gi (sI (sI (sI (sI σ8 161 ((gi σ8 132 44) : Int32).toNatClampNeg a1) 162 ((gi (sI σ8 161 ((gi σ8 132 44) : Int32).toNatClampNeg a1) 132 44) : Int32).toNatClampNeg a2) 163 ((gi (sI (sI σ8 161 ((gi σ8 132 44) : Int32).toNatClampNeg a1) 162 ((gi (sI σ8 161 ((gi σ8 132 44) : Int32).toNatClampNeg a1) 132 44) : Int32).toNatClampNeg a2) 132 44) : Int32).toNatClampNeg a3) 164 ((gi (sI (sI (sI σ8 161 ((gi σ8 132 44) : Int32).toNatClampNeg a1) 162 ((gi (sI σ8 161 ((gi σ8 132 44) : Int32).toNatClampNeg a1) 132 44) : Int32).toNatClampNeg a2) 163 ((gi (sI (sI σ8 161 ((gi σ8 132 44) : Int32).toNatClampNeg a1) 162 ((gi (sI σ8 161 ((gi σ8 132 44) : Int32).toNatClampNeg a1) 132 44) : Int32).toNatClampNeg a2) 132 44) : Int32).toNatClampNeg a3) 132 44) : Int32).toNatClampNeg a4) 132 44) : Int32).toNatClampNeg a5) 132 44) 6) (gd (inb (gi (sI (sI (sI (sI (sI (sI σ8 161 ((gi σ8 132 44) : Int32).toNatClampNeg a1) 162 ((gi (sI σ8 161 ((gi σ8 132 44) : Int32).toNatClampNeg a1) 132 44) : Int32).toNatClampNeg a2) 163 ((gi (sI (sI σ8 161 ((gi σ8 132 44) : Int32).toNatClampNeg a1) 162 ((gi (sI σ8 161 ((gi σ8 132 44) : Int32).toNatClampNeg a1) 132 44) : Int32).toNatClampNeg a2) 132 44) : Int32).toNatClampNeg a3) 164 ((gi (sI (sI (sI σ8 161 ((gi σ8 132 44) : Int32).toNatClampNeg a1) 162 ((gi (sI σ8 161 ((gi σ8 132 44) : Int32).toNatClampNeg a1) 132 44) : Int32).toNatClampNeg a2) 163 ((gi (sI (sI σ8 161 ((gi σ8 132 44) : Int32).toNatClampNeg a1) 162 ((gi (sI σ8 161 ((gi σ8 132 44) : Int32).toNatClampNeg a1) 132 44) : Int32).toNatClampNeg a2) 132 44) : Int32).toNatClampNeg a3) 132 44) : Int32).toNatClampNeg a4) 165 ((gi (sI (sI (sI (sI σ8 161 ((gi σ8 132 44) : Int32).toNatClampNeg a1) 162 ((gi (sI σ8 161 ((gi σ8 132 44) : Int32).toNatClampNeg a1) 132 44) : Int32).toNatClampNeg a2) 163 ((gi (sI (sI σ8 161 ((gi σ8 132 44) : Int32).toNatClampNeg a1) 162 ((gi (sI σ8 161 ((gi σ8 132 44) : Int32).toNatClampNeg a1) 132 44) : Int32).toNatClampNeg a2) 132 44) : Int32).toNatClampNeg a3) 164 ((gi (sI (sI (sI σ8 161 ((gi σ8 132 44) : Int32).toNatClampNeg a1) 162 ((gi (sI σ8 161 ((gi σ8 132 44) : Int32).toNatClampNeg a1) 132 44) : Int32).toNatClampNeg a2) 163 ((gi (sI (sI σ8 161 ((gi σ8 132 44) : Int32).toNatClampNeg a1) 162 ((gi (sI σ8 161 ((gi σ8 132 44) : Int32).toNatClampNeg a1) 132 44) : Int32).toNatClampNeg a2) 132 44) : Int32).toNatClampNeg a3) 132 44) : Int32).toNatClampNeg a4) 132 44) : Int32).toNatClampNeg a5) 166 ((gi (sI (sI (sI (sI (sI σ8 161 ((gi σ8 132 44) : Int32).toNatClampNeg a1) 162 ((gi (sI σ8 161 ((gi σ8 132 44) : Int32).toNatClampNeg a1) 132 44) : Int32).toNatClampNeg a2) 163 ((gi (sI (sI σ8 161 ((gi σ8 132 44) : Int32).toNatClampNeg a1) 162 ((gi (sI σ8 161 ((gi σ8 132 44) : Int32).toNatClampNeg a1) 132 44) : Int32).toNatClampNeg a2) 132 44) : Int32).toNatClampNeg a3) 164 ((gi (sI (sI (sI σ8 161 ((gi σ8 132 44) : Int32).toNatClampNeg a1) 162 ((gi (sI σ8 161 ((gi σ8 132 44) : Int32).toNatClampNeg a1) 132 44) : Int32).toNatClampNeg a2) 163 ((gi (sI (sI σ8 161 ((gi σ8 132 44) : Int32).toNatClampNeg a1) 162 ((gi (sI σ8 161 ((gi σ8 132 44) : Int32).toNatClampNeg a1) 132 44) : Int32).toNatClampNeg a2) 132 44) : Int32).toNatClampNeg a3) 132 44) : Int32).toNatClampNeg a4) 165 ((gi (sI (sI (sI (sI σ8 161 ((gi σ8 132 44) : Int32).toNatClampNeg a1) 162 ((gi (sI σ8 161 ((gi σ8 132 44) : Int32).toNatClampNeg a1) 132 44) : Int32).toNatClampNeg a2) 163 ((gi (sI (sI σ8 161 ((gi σ8 132 44) : Int32).toNatClampNeg a1) 162 ((gi (sI σ8 161 ((gi σ8 132 44) : Int32).toNatClampNeg a1) 132 44) : Int32).toNatClampNeg a2) 132 44) : Int32).toNatClampNeg a3) 164 ((gi (sI (sI (sI σ8 161 ((gi σ8 132 44) : Int32).toNatClampNeg a1) 162 ((gi (sI σ8 161 ((gi σ8 132 44) : Int32).toNatClampNeg a1) 132 44) : Int32).toNatClampNeg a2) 163 ((gi (sI (sI σ8 161 ((gi σ8 132 44) : Int32).toNatClampNeg a1) 162 ((gi (sI σ8 161 ((gi σ8 132 44) : Int32).toNatClampNeg a1) 132 44) : Int32).toNatClampNeg a2) 132 44) : Int32).toNatClampNeg a3) 132 44) : Int32).toNatClampNeg a4) 132 44) : Int32).toNatClampNeg a5) 132 44) : Int32).toNatClampNeg a6) 132 44) 6) (some (((gi (sI (sI (sI (sI (sI (sI (sI (sI (sI σ8 161 ((gi σ8 132 44) : Int32).toNatClampNeg a1) 162 ((gi (sI σ8 161 ((gi σ8 132 44) : Int32).toNatClampNeg a1) 132 44) : Int32).toNatClampNeg a2) 163 ((gi (sI (sI σ8 161 ((gi σ8 132 44) : Int32).toNatClampNeg a1) 162 ((gi (sI σ8 161 ((gi σ8 132 44) : Int32).toNatClampNeg a1) 132 44) : Int32).toNatClampNeg a2) 132 44) : Int32).toNatClampNeg a3) 164 ((gi (sI (sI (sI σ8 161 ((gi σ8 132 44) : Int32).toNatClampNeg a1) 162 ((gi (sI σ8 161 ((gi σ8 132 44) : Int32).toNatClampNeg a1) 132 44) : Int32).toNatClampNeg a2) 163 ((gi (sI (sI σ8 161 ((gi σ8 132 44) : Int32).toNatClampNeg a1) 162 ((gi (sI σ8 161 ((gi σ8 132 44) : Int32).toNatClampNeg a1) 132 44) : Int32).toNatClampNeg a2) 132 44) : Int32).toNatClampNeg a3) 132 44) : Int32).toNatClampNeg a4) 165 ((gi (sI (sI (sI (sI σ8 161 ((gi σ8 132 44) : Int32).toNatClampNeg a1) 162 ((gi (sI σ8 161 ((gi σ8 132 44) : Int32).toNatClampNeg a1) 132 44) : Int32).toNatClampNeg a2) 163 ((gi (sI (sI σ8 161 ((gi σ8 132 44) : Int32).toNatClampNeg a1) 162 ((gi (sI σ8 161 ((gi σ8 132 44) : Int32).toNatClampNeg a1) 132 44) : Int32).toNatClampNeg a2) 132 44) : Int32).toNatClampNeg a3) 164 ((gi (sI (sI (sI σ8 161 ((gi σ8 132 44) : Int32).toNatClampNeg a1) 162 ((gi (sI σ8 161 ((gi σ8 132 44) : Int32).toNatClampNeg a1) 132 44) : Int32).toNatClampNeg a2) 163 ((gi (sI (sI σ8 161 ((gi σ8 132 44) : Int32).toNatClampNeg a1) 162 ((gi (sI σ8 161 ((gi σ8 132 44) : Int32).toNatClampNeg a1) 132 44) : Int32).toNatClampNeg a2) 132 44) : Int32).toNatClampNeg a3) 132 44) : Int32).toNatClampNeg a4) 132 44) : Int32).toNatClampNeg a5) 166 ((gi (sI (sI (sI (sI (sI σ8 161 ((gi σ8 132 44) : Int32).toNatClampNeg a1) 162 ((gi (sI σ8 161 ((gi σ8 132 44) : Int32).toNatClampNeg a1) 132 44) : Int32).toNatClampNeg a2) 163 ((gi (sI (sI σ8 161 ((gi σ8 132 44) : Int32).toNatClampNeg a1) 162 ((gi (sI σ8 161 ((gi σ8 132 44) : Int32).toNatClampNeg a1) 132 44) : Int32).toNatClampNeg a2) 132 44) : Int32).toNatClampNeg a3) 164 ((gi (sI (sI (sI σ8 161 ((gi σ8 132 44) : Int32).toNatClampNeg a1) 162 ((gi (sI σ8 161 ((gi σ8 132 44) : Int32).toNatClampNeg a1) 132 44) : Int32).toNatClampNeg a2) 163 ((gi (sI (sI σ8 161 ((gi σ8 132 44) : Int32).toNatClampNeg a1) 162 ((gi (sI σ8 161 ((gi σ8 132 44) : Int32).toNatClampNeg a1) 132 44) : Int32).toNatClampNeg a2) 132 44) : Int32).toNatClampNeg a3) 132 44) : Int32).toNatClampNeg a4) 165 ((gi (sI (sI (sI (sI σ8 161 ((gi σ8 132 44) : Int32).toNatClampNeg a1) 162 ((gi (sI σ8 161 ((gi σ8 132 44) : Int32).toNatClampNeg a1) 132 44) : Int32).toNatClampNeg a2) 163 ((gi (sI (sI σ8 161 ((gi σ8 132 44) : Int32).toNatClampNeg a1) 162 ((gi (sI σ8 161 ((gi σ8 132 44) : Int32).toNatClampNeg a1) 132 44) : Int32).toNatClampNeg a2) 132 44) : Int32).toNatClampNeg a3) 164 ((gi (sI (sI (sI σ8 161 ((gi σ8 132 44) : Int32).toNatClampNeg a1) 162 ((gi (sI σ8 161 ((gi σ8 132 44) : Int32).toNatClampNeg a1) 132 44) : Int32).toNatClampNeg a2) 163 ((gi (sI (sI σ8 161 ((gi σ8 132 44) : Int32).toNatClampNeg a1) 162 ((gi (sI σ8 161 ((gi σ8 132 44) : Int32).toNatClampNeg a1) 132 44) : Int32).toNatClampNeg a2) 132 44) : Int32).toNatClampNeg a3) 132 44) : Int32).toNatClampNeg a4) 132 44) : Int32).toNatClampNeg a5) 132 44) : Int32).toNatClampNeg a6) 167 ((gi (sI (sI (sI (sI (sI (sI σ8 161 ((gi σ8 132 44) : Int32).toNatClampNeg a1) 162 ((gi (sI σ8 161 ((gi σ8 132 44) : Int32).toNatClampNeg a1) 132 44) : Int32).toNatClampNeg a2) 163 ((gi (sI (sI σ8 161 ((gi σ8 132 44) : Int32).toNatClampNeg a1) 162 ((gi (sI σ8 161 ((gi σ8 132 44) : Int32).toNatClampNeg a1) 132 44) : Int32).toNatClampNeg a2) 132 44) : Int32).toNatClampNeg a3) 164 ((gi (sI (sI (sI σ8 161 ((gi σ8 132 44) : Int32).toNatClampNeg a1) 162 ((gi (sI σ8 161 ((gi σ8 132 44) : Int32).toNatClampNeg a1) 132 44) : Int32).toNatClampNeg a2) 163 ((gi (sI (sI σ8 161 ((gi σ8 132 44) : Int32).toNatClampNeg a1) 162 ((gi (sI σ8 161 ((gi σ8 132 44) : Int32).toNatClampNeg a1) 132 44) : Int32).toNatClampNeg a2) 132 44) : Int32).toNatClampNeg a3) 132 44) : Int32).toNatClampNeg a4) 165 ((gi (sI (sI (sI (sI σ8 161 ((gi σ8 132 44) : Int32).toNatClampNeg a1) 162 ((gi (sI σ8 161 ((gi σ8 132 44) : Int32).toNatClampNeg a1) 132 44) : Int32).toNatClampNeg a2) 163 ((gi (sI (sI σ8 161 ((gi σ8 132 44) : Int32).toNatClampNeg a1) 162 ((gi (sI σ8 161 ((gi σ8 132 44) : Int32).toNatClampNeg a1) 132 44) : Int32).toNatClampNeg a2) 132 44) : Int32).toNatClampNeg a3) 164 ((gi (sI (sI (sI σ8 161 ((gi σ8 132 44) : Int32).toNatClampNeg a1) 162 ((gi (sI σ8 161 ((gi σ8 132 44) : Int32).toNatClampNeg a1) 132 44) : Int32).toNatClampNeg a2) 163 ((gi (sI (sI σ8 161 ((gi σ8 132 44) : Int32).toNatClampNeg a1) 162 ((gi (sI σ8 161 ((gi σ8 132 44) : Int32).toNatClampNeg a1) 132 44) : Int32).toNatClampNeg a2) 132 44) : Int32).toNatClampNeg a3) 132 44) : Int32).toNatClampNeg a4) 132 44) : Int32).toNatClampNeg a5) 166 ((gi (sI (sI (sI (sI (sI σ8 161 ((gi σ8 132 44) : Int32).toNatClampNeg a1) 162 ((gi (sI σ8 161 ((gi σ8 132 44) : Int32).toNatClampNeg a1) 132 44) : Int32).toNatClampNeg a2) 163 ((gi (sI (sI σ8 161 ((gi σ8 132 44) : Int32).toNatClampNeg a1) 162 ((gi (sI σ8 161 ((gi σ8 132 44) : Int32).toNatClampNeg a1) 132 44) : Int32).toNatClampNeg a2) 132 44) : Int32).toNatClampNeg a3) 164 ((gi (sI (sI (sI σ8 161 ((gi σ8 132 44) : Int32).toNatClampNeg a1) 162 ((gi (sI σ8 161 ((gi σ8 132 44) : Int32).toNatClampNeg a1) 132 44) : Int32).toNatClampNeg a2) 163 ((gi (sI (sI σ8 161 ((gi σ8 132 44) : Int32).toNatClampNeg a1) 162 ((gi (sI σ8 161 ((gi σ8 132 44) : Int32).toNatClampNeg a1) 132 44) : Int32).toNatClampNeg a2) 132 44) : Int32).toNatClampNeg a3) 132 44) : Int32).toNatClampNeg a4) 165 ((gi (sI (sI (sI (sI σ8 161 ((gi σ8 132 44) : Int32).toNatClampNeg a1) 162 ((gi (sI σ8 161 ((gi σ8 132 44) : Int32).toNatClampNeg a1) 132 44) : Int32).toNatClampNeg a2) 163 ((gi (sI (sI σ8 161 ((gi σ8 132 44) : Int32).toNatClampNeg a1) 162 ((gi (sI σ8 161 ((gi σ8 132 44) : Int32).toNatClampNeg a1) 132 44) : Int32).toNatClampNeg a2) 132 44) : Int32).toNatClampNeg a3) 164 ((gi (sI (sI (sI σ8 161 ((gi σ8 132 44) : Int32).toNatClampNeg a1) 162 ((gi (sI σ8 161 ((gi σ8 132 44) : Int32).toNatClampNeg a1) 132 44) : Int32).toNatClampNeg a2) 163 ((gi (sI (sI σ8 161 ((gi σ8 132 44) : Int32).toNatClampNeg a1) 162 ((gi (sI σ8 161 ((gi σ8 132 44) : Int32).toNatClampNeg a1) 132 44) : Int32).toNatClampNeg a2) 132 44) : Int32).toNatClampNeg a3) 132 44) : Int32).toNatClampNeg a4) 132 44) : Int32).toNatClampNeg a5) 132 44) : Int32).toNatClampNeg a6) 132 44) : Int32).toNatClampNeg 0) 132 44 ((gi (sI (sI (sI (sI (sI (sI (sI σ8 161 ((gi σ8 132 44) : Int32).toNatClampNeg a1) 162 ((gi (sI σ8 161 ((gi σ8 132 44) : Int32).toNatClampNeg a1) 132 44) : Int32).toNatClampNeg a2) 163 ((gi (sI (sI σ8 161 ((gi σ8 132 44) : Int32).toNatClampNeg a1) 162 ((gi (sI σ8 161 ((gi σ8 132 44) : Int32).toNatClampNeg a1) 132 44) : Int32).toNatClampNeg a2) 132 44) : Int32).toNatClampNeg a3) 164 ((gi (sI (sI (sI σ8 161 ((gi σ8 132 44) : Int32).toNatClampNeg a1) 162 ((gi (sI σ8 161 ((gi σ8 132 44) : Int32).toNatClampNeg a1) 132 44) : Int32).toNatClampNeg a2) 163 ((gi (sI (sI σ8 161 ((gi σ8 132 44) : Int32).toNatClampNeg a1) 162 ((gi (sI σ8 161 ((gi σ8 132 44) : Int32).toNatClampNeg a1) 132 44) : Int32).toNatClampNeg a2) 132 44) : Int32).toNatClampNeg a3) 132 44) : Int32).toNatClampNeg a4) 165 ((gi (sI (sI (sI (sI σ8 161 ((gi σ8 132 44) : Int32).toNatClampNeg a1) 162 ((gi (sI σ8 161 ((gi σ8 132 44) : Int32).toNatClampNeg a1) 132 44) : Int32).toNatClampNeg a2) 163 ((gi (sI (sI σ8 161 ((gi σ8 132 44) : Int32).toNatClampNeg a1) 162 ((gi (sI σ8 161 ((gi σ8 132 44) : Int32).toNatClampNeg a1) 132 44) : Int32).toNatClampNeg a2) 132 44) : Int32).toNatClampNeg a3) 164 ((gi (sI (sI (sI σ8 161 ((gi σ8 132 44) : Int32).toNatClampNeg a1) 162 ((gi (sI σ8 161 ((gi σ8 132 44) : Int32).toNatClampNeg a1) 132 44) : Int32).toNatClampNeg a2) 163 ((gi (sI (sI σ8 161 ((gi σ8 132 44) : Int32).toNatClampNeg a1) 162 ((gi (sI σ8 161 ((gi σ8 132 44) : Int32).toNatClampNeg a1) 132 44) : Int32).toNatClampNeg a2) 132 44) : Int32).toNatClampNeg a3) 132 44) : Int32).toNatClampNeg a4) 132 44) : Int32).toNatClampNeg a5) 166 ((gi (sI (sI (sI (sI (sI σ8 161 ((gi σ8 132 44) : Int32).toNatClampNeg a1) 162 ((gi (sI σ8 161 ((gi σ8 132 44) : Int32).toNatClampNeg a1) 132 44) : Int32).toNatClampNeg a2) 163 ((gi (sI (sI σ8 161 ((gi σ8 132 44) : Int32).toNatClampNeg a1) 162 ((gi (sI σ8 161 ((gi σ8 132 44) : Int32).toNatClampNeg a1) 132 44) : Int32).toNatClampNeg a2) 132 44) : Int32).toNatClampNeg a3) 164 ((gi (sI (sI (sI σ8 161 ((gi σ8 132 44) : Int32).toNatClampNeg a1) 162 ((gi (sI σ8 161 ((gi σ8 132 44) : Int32).toNatClampNeg a1) 132 44) : Int32).toNatClampNeg a2) 163 ((gi (sI (sI σ8 161 ((gi σ8 132 44) : Int32).toNatClampNeg a1) 162 ((gi (sI σ8 161 ((gi σ8 132 44) : Int32).toNatClampNeg a1) 132 44) : Int32).toNatClampNeg a2) 132 44) : Int32).toNatClampNeg a3) 132 44) : Int32).toNatClampNeg a4) 165 ((gi (sI (sI (sI (sI σ8 161 ((gi σ8 132 44) : Int32).toNatClampNeg a1) 162 ((gi (sI σ8 161 ((gi σ8 132 44) : Int32).toNatClampNeg a1) 132 44) : Int32).toNatClampNeg a2) 163 ((gi (sI (sI σ8 161 ((gi σ8 132 44) : Int32).toNatClampNeg a1) 162 ((gi (sI σ8 161 ((gi σ8 132 44) : Int32).toNatClampNeg a1) 132 44) : Int32).toNatClampNeg a2) 132 44) : Int32).toNatClampNeg a3) 164 ((gi (sI (sI (sI σ8 161 ((gi σ8 132 44) : Int32).toNatClampNeg a1) 162 ((gi (sI σ8 161 ((gi σ8 132 44) : Int32).toNatClampNeg a1) 132 44) : Int32).toNatClampNeg a2) 163 ((gi (sI (sI σ8 161 ((gi σ8 132 44) : Int32).toNatClampNeg a1) 162 ((gi (sI σ8 161 ((gi σ8 132 44) : Int32).toNatClampNeg a1) 132 44) : Int32).toNatClampNeg a2) 132 44) : Int32).toNatClampNeg a3) 132 44) : Int32).toNatClampNeg a4) 132 44) : Int32).toNatClampNeg a5) 132 44) : Int32).toNatClampNeg a6) 167 ((gi (sI (sI (sI (sI (sI (sI σ8 161 ((gi σ8 132 44) : Int32).toNatClampNeg a1) 162 ((gi (sI σ8 161 ((gi σ8 132 44) : Int32).toNatClampNeg a1) 132 44) : Int32).toNatClampNeg a2) 163 ((gi (sI (sI σ8 161 ((gi σ8 132 44) : Int32).toNatClampNeg a1) 162 ((gi (sI σ8 161 ((gi σ8 132 44) : Int32).toNatClampNeg a1) 132 44) : Int32).toNatClampNeg a2) 132 44) : Int32).toNatClampNeg a3) 164 ((gi (sI (sI (sI σ8 161 ((gi σ8 132 44) : Int32).toNatClampNeg a1) 162 ((gi (sI σ8 161 ((gi σ8 132 44) : Int32).toNatClampNeg a1) 132 44) : Int32).toNatClampNeg a2) 163 ((gi (sI (sI σ8 161 ((gi σ8 132 44) : Int32).toNatClampNeg a1) 162 ((gi (sI σ8 161 ((gi σ8 132 44) : Int32).toNatClampNeg a1) 132 44) : Int32).toNatClampNeg a2) 132 44) : Int32).toNatClampNeg a3) 132 44) : Int32).toNatClampNeg a4) 165 ((gi (sI (sI (sI (sI σ8 161 ((gi σ8 132 44) : Int32).toNatClampNeg a1) 162 ((gi (sI σ8 161 ((gi σ8 132 44) : Int32).toNatClampNeg a1) 132 44) : Int32).toNatClampNeg a2) 163 ((gi (sI (sI σ8 161 ((gi σ8 132 44) : Int32).toNatClampNeg a1) 162 ((gi (sI σ8 161 ((gi σ8 132 44) : Int32).toNatClampNeg a1) 132 44) : Int32).toNatClampNeg a2) 132 44) : Int32).toNatClampNeg a3) 164 ((gi (sI (sI (sI σ8 161 ((gi σ8 132 44) : Int32).toNatClampNeg a1) 162 ((gi (sI σ8 161 ((gi σ8 132 44) : Int32).toNatClampNeg a1) 132 44) : Int32).toNatClampNeg a2) 163 ((gi (sI (sI σ8 161 ((gi σ8 132 44) : Int32).toNatClampNeg a1) 162 ((gi (sI σ8 161 ((gi σ8 132 44) : Int32).toNatClampNeg a1) 132 44) : Int32).toNatClampNeg a2) 132 44) : Int32).toNatClampNeg a3) 132 44) : Int32).toNatClampNeg a4) 132 44) : Int32).toNatClampNeg a5) 166 ((gi (sI (sI (sI (sI (sI σ8 161 ((gi σ8 132 44) : Int32).toNatClampNeg a1) 162 ((gi (sI σ8 161 ((gi σ8 132 44) : Int32).toNatClampNeg a1) 132 44) : Int32).toNatClampNeg a2) 163 ((gi (sI (sI σ8 161 ((gi σ8 132 44) : Int32).toNatClampNeg a1) 162 ((gi (sI σ8 161 ((gi σ8 132 44) : Int32).toNatClampNeg a1) 132 44) : Int32).toNatClampNeg a2) 132 44) : Int32).toNatClampNeg a3) 164 ((gi (sI (sI (sI σ8 161 ((gi σ8 132 44) : Int32).toNatClampNeg a1) 162 ((gi (sI σ8 161 ((gi σ8 132 44) : Int32).toNatClampNeg a1) 132 44) : Int32).toNatClampNeg a2) 163 ((gi (sI (sI σ8 161 ((gi σ8 132 44) : Int32).toNatClampNeg a1) 162 ((gi (sI σ8 161 ((gi σ8 132 44) : Int32).toNatClampNeg a1) 132 44) : Int32).toNatClampNeg a2) 132 44) : Int32).toNatClampNeg a3) 132 44) : Int32).toNatClampNeg a4) 165 ((gi (sI (sI (sI (sI σ8 161 ((gi σ8 132 44) : Int32).toNatClampNeg a1) 162 ((gi (sI σ8 161 ((gi σ8 132 44) : Int32).toNatClampNeg a1) 132 44) : Int32).toNatClampNeg a2) 163 ((gi (sI (sI σ8 161 ((gi σ8 132 44) : Int32).toNatClampNeg a1) 162 ((gi (sI σ8 161 ((gi σ8 132 44) : Int32).toNatClampNeg a1) 132 44) : Int32).toNatClampNeg a2) 132 44) : Int32).toNatClampNeg a3) 164 ((gi (sI (sI (sI σ8 161 ((gi σ8 132 44) : Int32).toNatClampNeg a1) 162 ((gi (sI σ8 161 ((gi σ8 132 44) : Int32).toNatClampNeg a1) 132 44) : Int32).toNatClampNeg a2) 163 ((gi (sI (sI σ8 161 ((gi σ8 132 44) : Int32).toNatClampNeg a1) 162 ((gi (sI σ8 161 ((gi σ8 132 44) : Int32).toNatClampNeg a1) 132 44) : Int32).toNatClampNeg a2) 132 44) : Int32).toNatClampNeg a3) 132 44) : Int32).toNatClampNeg a4) 132 44) : Int32).toNatClampNeg a5) 132 44) : Int32).toNatClampNeg a6) 132 44) : Int32).toNatClampNeg 0) 132 44) + 1)) 132 58 (-1)) 132 44) - 1), (sI (sI (sI (sI (sI (sI (sI (sI (sI σ8 161 ((gi σ8 132 44) : Int32).toNatClampNeg a1) 162 ((gi (sI σ8 161 ((gi σ8 132 44) : Int32).toNatClampNeg a1) 132 44) : Int32).toNatClampNeg a2) 163 ((gi (sI (sI σ8 161 ((gi σ8 132 44) : Int32).toNatClampNeg a1) 162 ((gi (sI σ8 161 ((gi σ8 132 44) : Int32).toNatClampNeg a1) 132 44) : Int32).toNatClampNeg a2) 132 44) : Int32).toNatClampNeg a3) 164 ((gi (sI (sI (sI σ8 161 ((gi σ8 132 44) : Int32).toNatClampNeg a1) 162 ((gi (sI σ8 161 ((gi σ8 132 44) : Int32).toNatClampNeg a1) 132 44) : Int32).toNatClampNeg a2) 163 ((gi (sI (sI σ8 161 ((gi σ8 132 44) : Int32).toNatClampNeg a1) 162 ((gi (sI σ8 161 ((gi σ8 132 44) : Int32).toNatClampNeg a1) 132 44) : Int32).toNatClampNeg a2) 132 44) : Int32).toNatClampNeg a3) 132 44) : Int32).toNatClampNeg a4) 165 ((gi (sI (sI (sI (sI σ8 161 ((gi σ8 132 44) : Int32).toNatClampNeg a1) 162 ((gi (sI σ8 161 ((gi σ8 132 44) : Int32).toNatClampNeg a1) 132 44) : Int32).toNatClampNeg a2) 163 ((gi (sI (sI σ8 161 ((gi σ8 132 44) : Int32).toNatClampNeg a1) 162 ((gi (sI σ8 161 ((gi σ8 132 44) : Int32).toNatClampNeg a1) 132 44) : Int32).toNatClampNeg a2) 132 44) : Int32).toNatClampNeg a3) 164 ((gi (sI (sI (sI σ8 161 ((gi σ8 132 44) : Int32).toNatClampNeg a1) 162 ((gi (sI σ8 161 ((gi σ8 132 44) : Int32).toNatClampNeg a1) 132 44) : Int32).toNatClampNeg a2) 163 ((gi (sI (sI σ8 161 ((gi σ8 132 44) : Int32).toNatClampNeg a1) 162 ((gi (sI σ8 161 ((gi σ8 132 44) : Int32).toNatClampNeg a1) 132 44) : Int32).toNatClampNeg a2) 132 44) : Int32).toNatClampNeg a3) 132 44) : Int32).toNatClampNeg a4) 132 44) : Int32).toNatClampNeg a5) 166 ((gi (sI (sI (sI (sI (sI σ8 161 ((gi σ8 132 44) : Int32).toNatClampNeg a1) 162 ((gi (sI σ8 161 ((gi σ8 132 44) : Int32).toNatClampNeg a1) 132 44) : Int32).toNatClampNeg a2) 163 ((gi (sI (sI σ8 161 ((gi σ8 132 44) : Int32).toNatClampNeg a1) 162 ((gi (sI σ8 161 ((gi σ8 132 44) : Int32).toNatClampNeg a1) 132 44) : Int32).toNatClampNeg a2) 132 44) : Int32).toNatClampNeg a3) 164 ((gi (sI (sI (sI σ8 161 ((gi σ8 132 44) : Int32).toNatClampNeg a1) 162 ((gi (sI σ8 161 ((gi σ8 132 44) : Int32).toNatClampNeg a1) 132 44) : Int32).toNatClampNeg a2) 163 ((gi (sI (sI σ8 161 ((gi σ8 132 44) : Int32).toNatClampNeg a1) 162 ((gi (sI σ8 161 ((gi σ8 132 44) : Int32).toNatClampNeg a1) 132 44) : Int32).toNatClampNeg a2) 132 44) : Int32).toNatClampNeg a3) 132 44) : Int32).toNatClampNeg a4) 165 ((gi (sI (sI (sI (sI σ8 161 ((gi σ8 132 44) : Int32).toNatClampNeg a1) 162 ((gi (sI σ8 161 ((gi σ8 132 44) : Int32).toNatClampNeg a1) 132 44) : Int32).toNatClampNeg a2) 163 ((gi (sI (sI σ8 161 ((gi σ8 132 44) : Int32).toNatClampNeg a1) 162 ((gi (sI σ8 161 ((gi σ8 132 44) : Int32).toNatClampNeg a1) 132 44) : Int32).toNatClampNeg a2) 132 44) : Int32).toNatClampNeg a3) 164 ((gi (sI (sI (sI σ8 161 ((gi σ8 132 44) : Int32).toNatClampNeg a1) 162 ((gi (sI σ8 161 ((gi σ8 132 44) : Int32).toNatClampNeg a1) 132 44) : Int32).toNatClampNeg a2) 163 ((gi (sI (sI σ8 161 ((gi σ8 132 44) : Int32).toNatClampNeg a1) 162 ((gi (sI σ8 161 ((gi σ8 132 44) : Int32).toNatClampNeg a1) 132 44) : Int32).toNatClampNeg a2) 132 44) : Int32).toNatClampNeg a3) 132 44) : Int32).toNatClampNeg a4) 132 44) : Int32).toNatClampNeg a5) 132 44) : Int32).toNatClampNeg a6) 167 ((gi (sI (sI (sI (sI (sI (sI σ8 161 ((gi σ8 132 44) : Int32).toNatClampNeg a1) 162 ((gi (sI σ8 161 ((gi σ8 132 44) : Int32).toNatClampNeg a1) 132 44) : Int32).toNatClampNeg a2) 163 ((gi (sI (sI σ8 161 ((gi σ8 132 44) : Int32).toNatClampNeg a1) 162 ((gi (sI σ8 161 ((gi σ8 132 44) : Int32).toNatClampNeg a1) 132 44) : Int32).toNatClampNeg a2) 132 44) : Int32).toNatClampNeg a3) 164 ((gi (sI (sI (sI σ8 161 ((gi σ8 132 44) : Int32).toNatClampNeg a1) 162 ((gi (sI σ8 161 ((gi σ8 132 44) : Int32).toNatClampNeg a1) 132 44) : Int32).toNatClampNeg a2) 163 ((gi (sI (sI σ8 161 ((gi σ8 132 44) : Int32).toNatClampNeg a1) 162 ((gi (sI σ8 161 ((gi σ8 132 44) : Int32).toNatClampNeg a1) 132 44) : Int32).toNatClampNeg a2) 132 44) : Int32).toNatClampNeg a3) 132 44) : Int32).toNatClampNeg a4) 165 ((gi (sI (sI (sI (sI σ8 161 ((gi σ8 132 44) : Int32).toNatClampNeg a1) 162 ((gi (sI σ8 161 ((gi σ8 132 44) : Int32).toNatClampNeg a1) 132 44) : Int32).toNatClampNeg a2) 163 ((gi (sI (sI σ8 161 ((gi σ8 132 44) : Int32).toNatClampNeg a1) 162 ((gi (sI σ8 161 ((gi σ8 132 44) : Int32).toNatClampNeg a1) 132 44) : Int32).toNatClampNeg a2) 132 44) : Int32).toNatClampNeg a3) 164 ((gi (sI (sI (sI σ8 161 ((gi σ8 132 44) : Int32).toNatClampNeg a1) 162 ((gi (sI σ8 161 ((gi σ8 132 44) : Int32).toNatClampNeg a1) 132 44) : Int32).toNatClampNeg a2) 163 ((gi (sI (sI σ8 161 ((gi σ8 132 44) : Int32).toNatClampNeg a1) 162 ((gi (sI σ8 161 ((gi σ8 132 44) : Int32).toNatClampNeg a1) 132 44) : Int32).toNatClampNeg a2) 132 44) : Int32).toNatClampNeg a3) 132 44) : Int32).toNatClampNeg a4) 132 44) : Int32).toNatClampNeg a5) 166 ((gi (sI (sI (sI (sI (sI σ8 161 ((gi σ8 132 44) : Int32).toNatClampNeg a1) 162 ((gi (sI σ8 161 ((gi σ8 132 44) : Int32).toNatClampNeg a1) 132 44) : Int32).toNatClampNeg a2) 163 ((gi (sI (sI σ8 161 ((gi σ8 132 44) : Int32).toNatClampNeg a1) 162 ((gi (sI σ8 161 ((gi σ8 132 44) : Int32).toNatClampNeg a1) 132 44) : Int32).toNatClampNeg a2) 132 44) : Int32).toNatClampNeg a3) 164 ((gi (sI (sI (sI σ8 161 ((gi σ8 132 44) : Int32).toNatClampNeg a1) 162 ((gi (sI σ8 161 ((gi σ8 132 44) : Int32).toNatClampNeg a1) 132 44) : Int32).toNatClampNeg a2) 163 ((gi (sI (sI σ8 161 ((gi σ8 132 44) : Int32).toNatClampNeg a1) 162 ((gi (sI σ8 161 ((gi σ8 132 44) : Int32).toNatClampNeg a1) 132 44) : Int32).toNatClampNeg a2) 132 44) : Int32).toNatClampNeg a3) 132 44) : Int32).toNatClampNeg a4) 165 ((gi (sI (sI (sI (sI σ8 161 ((gi σ8 132 44) : Int32).toNatClampNeg a1) 162 ((gi (sI σ8 161 ((gi σ8 132 44) : Int32).toNatClampNeg a1) 132 44) : Int32).toNatClampNeg a2) 163 ((gi (sI (sI σ8 161 ((gi σ8 132 44) : Int32).toNatClampNeg a1) 162 ((gi (sI σ8 161 ((gi σ8 132 44) : Int32).toNatClampNeg a1) 132 44) : Int32).toNatClampNeg a2) 132 44) : Int32).toNatClampNeg a3) 164 ((gi (sI (sI (sI σ8 161 ((gi σ8 132 44) : Int32).toNatClampNeg a1) 162 ((gi (sI σ8 161 ((gi σ8 132 44) : Int32).toNatClampNeg a1) 132 44) : Int32).toNatClampNeg a2) 163 ((gi (sI (sI σ8 161 ((gi σ8 132 44) : Int32).toNatClampNeg a1) 162 ((gi (sI σ8 161 ((gi σ8 132 44) : Int32).toNatClampNeg a1) 132 44) : Int32).toNatClampNeg a2) 132 44) : Int32).toNatClampNeg a3) 132 44) : Int32).toNatClampNeg a4) 132 44) : Int32).toNatClampNeg a5) 132 44) : Int32).toNatClampNeg a6) 132 44) : Int32).toNatClampNeg 0) 132 44 ((gi (sI (sI (sI (sI (sI (sI (sI σ8 161 ((gi σ8 132 44) : Int32).toNatClampNeg a1) 162 ((gi (sI σ8 161 ((gi σ8 132 44) : Int32).toNatClampNeg a1) 132 44) : Int32).toNatClampNeg a2) 163 ((gi (sI (sI σ8 161 ((gi σ8 132 44) : Int32).toNatClampNeg a1) 162 ((gi (sI σ8 161 ((gi σ8 132 44) : Int32).toNatClampNeg a1) 132 44) : Int32).toNatClampNeg a2) 132 44) : Int32).toNatClampNeg a3) 164 ((gi (sI (sI (sI σ8 161 ((gi σ8 132 44) : Int32).toNatClampNeg a1) 162 ((gi (sI σ8 161 ((gi σ8 132 44) : Int32).toNatClampNeg a1) 132 44) : Int32).toNatClampNeg a2) 163 ((gi (sI (sI σ8 161 ((gi σ8 132 44) : Int32).toNatClampNeg a1) 162 ((gi (sI σ8 161 ((gi σ8 132 44) : Int32).toNatClampNeg a1) 132 44) : Int32).toNatClampNeg a2) 132 44) : Int32).toNatClampNeg a3) 132 44) : Int32).toNatClampNeg a4) 165 ((gi (sI (sI (sI (sI σ8 161 ((gi σ8 132 44) : Int32).toNatClampNeg a1) 162 ((gi (sI σ8 161 ((gi σ8 132 44) : Int32).toNatClampNeg a1) 132 44) : Int32).toNatClampNeg a2) 163 ((gi (sI (sI σ8 161 ((gi σ8 132 44) : Int32).toNatClampNeg a1) 162 ((gi (sI σ8 161 ((gi σ8 132 44) : Int32).toNatClampNeg a1) 132 44) : Int32).toNatClampNeg a2) 132 44) : Int32).toNatClampNeg a3) 164 ((gi (sI (sI (sI σ8 161 ((gi σ8 132 44) : Int32).toNatClampNeg a1) 162 ((gi (sI σ8 161 ((gi σ8 132 44) : Int32).toNatClampNeg a1) 132 44) : Int32).toNatClampNeg a2) 163 ((gi (sI (sI σ8 161 ((gi σ8 132 44) : Int32).toNatClampNeg a1) 162 ((gi (sI σ8 161 ((gi σ8 132 44) : Int32).toNatClampNeg a1) 132 44) : Int32).toNatClampNeg a2) 132 44) : Int32).toNatClampNeg a3) 132 44) : Int32).toNatClampNeg a4) 132 44) : Int32).toNatClampNeg a5) 166 ((gi (sI (sI (sI (sI (sI σ8 161 ((gi σ8 132 44) : Int32).toNatClampNeg a1) 162 ((gi (sI σ8 161 ((gi σ8 132 44) : Int32).toNatClampNeg a1) 132 44) : Int32).toNatClampNeg a2) 163 ((gi (sI (sI σ8 161 ((gi σ8 132 44) : Int32).toNatClampNeg a1) 162 ((gi (sI σ8 161 ((gi σ8 132 44) : Int32).toNatClampNeg a1) 132 44) : Int32).toNatClampNeg a2) 132 44) : Int32).toNatClampNeg a3) 164 ((gi (sI (sI (sI σ8 161 ((gi σ8 132 44) : Int32).toNatClampNeg a1) 162 ((gi (sI σ8 161 ((gi σ8 132 44) : Int32).toNatClampNeg a1) 132 44) : Int32).toNatClampNeg a2) 163 ((gi (sI (sI σ8 161 ((gi σ8 132 44) : Int32).toNatClampNeg a1) 162 ((gi (sI σ8 161 ((gi σ8 132 44) : Int32).toNatClampNeg a1) 132 44) : Int32).toNatClampNeg a2) 132 44) : Int32).toNatClampNeg a3) 132 44) : Int32).toNatClampNeg a4) 165 ((gi (sI (sI (sI (sI σ8 161 ((gi σ8 132 44) : Int32).toNatClampNeg a1) 162 ((gi (sI σ8 161 ((gi σ8 132 44) : Int32).toNatClampNeg a1) 132 44) : Int32).toNatClampNeg a2) 163 ((gi (sI (sI σ8 161 ((gi σ8 132 44) : Int32).toNatClampNeg a1) 162 ((gi (sI σ8 161 ((gi σ8 132 44) : Int32).toNatClampNeg a1) 132 44) : Int32).toNatClampNeg a2) 132 44) : Int32).toNatClampNeg a3) 164 ((gi (sI (sI (sI σ8 161 ((gi σ8 132 44) : Int32).toNatClampNeg a1) 162 ((gi (sI σ8 161 ((gi σ8 132 44) : Int32).toNatClampNeg a1) 132 44) : Int32).toNatClampNeg a2) 163 ((gi (sI (sI σ8 161 ((gi σ8 132 44) : Int32).toNatClampNeg a1) 162 ((gi (sI σ8 161 ((gi σ8 132 44) : Int32).toNatClampNeg a1) 132 44) : Int32).toNatClampNeg a2) 132 44) : Int32).toNatClampNeg a3) 132 44) : Int32).toNatClampNeg a4) 132 44) : Int32).toNatClampNeg a5) 132 44) : Int32).toNatClampNeg a6) 167 ((gi (sI (sI (sI (sI (sI (sI σ8 161 ((gi σ8 132 44) : Int32).toNatClampNeg a1) 162 ((gi (sI σ8 161 ((gi σ8 132 44) : Int32).toNatClampNeg a1) 132 44) : Int32).toNatClampNeg a2) 163 ((gi (sI (sI σ8 161 ((gi σ8 132 44) : Int32).toNatClampNeg a1) 162 ((gi (sI σ8 161 ((gi σ8 132 44) : Int32).toNatClampNeg a1) 132 44) : Int32).toNatClampNeg a2) 132 44) : Int32).toNatClampNeg a3) 164 ((gi (sI (sI (sI σ8 161 ((gi σ8 132 44) : Int32).toNatClampNeg a1) 162 ((gi (sI σ8 161 ((gi σ8 132 44) : Int32).toNatClampNeg a1) 132 44) : Int32).toNatClampNeg a2) 163 ((gi (sI (sI σ8 161 ((gi σ8 132 44) : Int32).toNatClampNeg a1) 162 ((gi (sI σ8 161 ((gi σ8 132 44) : Int32).toNatClampNeg a1) 132 44) : Int32).toNatClampNeg a2) 132 44) : Int32).toNatClampNeg a3) 132 44) : Int32).toNatClampNeg a4) 165 ((gi (sI (sI (sI (sI σ8 161 ((gi σ8 132 44) : Int32).toNatClampNeg a1) 162 ((gi (sI σ8 161 ((gi σ8 132 44) : Int32).toNatClampNeg a1) 132 44) : Int32).toNatClampNeg a2) 163 ((gi (sI (sI σ8 161 ((gi σ8 132 44) : Int32).toNatClampNeg a1) 162 ((gi (sI σ8 161 ((gi σ8 132 44) : Int32).toNatClampNeg a1) 132 44) : Int32).toNatClampNeg a2) 132 44) : Int32).toNatClampNeg a3) 164 ((gi (sI (sI (sI σ8 161 ((gi σ8 132 44) : Int32).toNatClampNeg a1) 162 ((gi (sI σ8 161 ((gi σ8 132 44) : Int32).toNatClampNeg a1) 132 44) : Int32).toNatClampNeg a2) 163 ((gi (sI (sI σ8 161 ((gi σ8 132 44) : Int32).toNatClampNeg a1) 162 ((gi (sI σ8 161 ((gi σ8 132 44) : Int32).toNatClampNeg a1) 132 44) : Int32).toNatClampNeg a2) 132 44) : Int32).toNatClampNeg a3) 132 44) : Int32).toNatClampNeg a4) 132 44) : Int32).toNatClampNeg a5) 166 ((gi (sI (sI (sI (sI (sI σ8 161 ((gi σ8 132 44) : Int32).toNatClampNeg a1) 162 ((gi (sI σ8 161 ((gi σ8 132 44) : Int32).toNatClampNeg a1) 132 44) : Int32).toNatClampNeg a2) 163 ((gi (sI (sI σ8 161 ((gi σ8 132 44) : Int32).toNatClampNeg a1) 162 ((gi (sI σ8 161 ((gi σ8 132 44) : Int32).toNatClampNeg a1) 132 44) : Int32).toNatClampNeg a2) 132 44) : Int32).toNatClampNeg a3) 164 ((gi (sI (sI (sI σ8 161 ((gi σ8 132 44) : Int32).toNatClampNeg a1) 162 ((gi (sI σ8 161 ((gi σ8 132 44) : Int32).toNatClampNeg a1) 132 44) : Int32).toNatClampNeg a2) 163 ((gi (sI (sI σ8 161 ((gi σ8 132 44) : Int32).toNatClampNeg a1) 162 ((gi (sI σ8 161 ((gi σ8 132 44) : Int32).toNatClampNeg a1) 132 44) : Int32).toNatClampNeg a2) 132 44) : Int32).toNatClampNeg a3) 132 44) : Int32).toNatClampNeg a4) 165 ((gi (sI (sI (sI (sI σ8 161 ((gi σ8 132 44) : Int32).toNatClampNeg a1) 162 ((gi (sI σ8 161 ((gi σ8 132 44) : Int32).toNatClampNeg a1) 132 44) : Int32).toNatClampNeg a2) 163 ((gi (sI (sI σ8 161 ((gi σ8 132 44) : Int32).toNatClampNeg a1) 162 ((gi (sI σ8 161 ((gi σ8 132 44) : Int32).toNatClampNeg a1) 132 44) : Int32).toNatClampNeg a2) 132 44) : Int32).toNatClampNeg a3) 164 ((gi (sI (sI (sI σ8 161 ((gi σ8 132 44) : Int32).toNatClampNeg a1) 162 ((gi (sI σ8 161 ((gi σ8 132 44) : Int32).toNatClampNeg a1) 132 44) : Int32).toNatClampNeg a2) 163 ((gi (sI (sI σ8 161 ((gi σ8 132 44) : Int32).toNatClampNeg a1) 162 ((gi (sI σ8 161 ((gi σ8 132 44) : Int32).toNatClampNeg a1) 132 44) : Int32).toNatClampNeg a2) 132 44) : Int32).toNatClampNeg a3) 132 44) : Int32).toNatClampNeg a4) 132 44) : Int32).toNatClampNeg a5) 132 44) : Int32).toNatClampNeg a6) 132 44) : Int32).toNatClampNeg 0) 132 44) + 1)) 132 58 (-1)))))))))))) qy7.1 qy7.2)))) qy4.1 qy4.2))) qy1.1 qy1.2))))))))
set_option maxRecDepth 100000 in
set_option maxHeartbeats 4000000 in
theorem okX9_caravan (a1 : Int32) (a2 : Int32) (a3 : Int32) (a4 : Int32) (a5 : Int32) (a6 : Int32) (σ : PS) (P : Int32 × PS → Prop) (h : hO (fX9_caravan a1 a2 a3 a4 a5 a6 σ) P) : CON g mX9_caravan 1 0 0 [.ref 132, .int a1, .int a2, .int a3, .int a4, .int a5, .int a6] (HP σ) (pI P) := by
  refine CON.of (by decide) (by simp [lg_sl, Value.category]) ?_
  show X g _ _ _ _ _ 0 [(0, .ref 132), (1, .int a1), (2, .int a2), (3, .int a3), (4, .int a4), (5, .int a5), (6, .int a6)] [] _
  unfold fX9_caravan at h
  refine X_aload_n 0 rfl (dk KX9_caravan 0 rfl) ?_
  refine Y_getI fX9_312 (Nat.le_of_ble_eq_true rfl) rfl (dk KX9_caravan 1 rfl) ?_
  refine X_bipush (dk KX9_caravan 2 rfl) 6 (by decide) ?_
  refine X_icmp_eq 73 (dk KX9_caravan 3 rfl) (by decide) (fun hc => ?_) (fun hc => ?_)
  · have h := hO_t hc h
    refine X_iconst (dk KX9_caravan 35 rfl) (-1) (by decide) ?_
    exact Y_iret (dk KX9_caravan 36 rfl) rfl h
  · have h := hO_f hc h
    refine X_iload_n 1 rfl (dk KX9_caravan 4 rfl) ?_
    refine X_if_lt 73 (dk KX9_caravan 5 rfl) (by decide) (fun hc => ?_) (fun hc => ?_)
    · have h := hO_t hc h
      refine X_iconst (dk KX9_caravan 35 rfl) (-1) (by decide) ?_
      exact Y_iret (dk KX9_caravan 36 rfl) rfl h
    · have h := hO_f hc h
      refine X_iload_n 1 rfl (dk KX9_caravan 6 rfl) ?_
      refine X_iconst (dk KX9_caravan 7 rfl) 3 (by decide) ?_
      refine X_icmp_gt 73 (dk KX9_caravan 8 rfl) (by decide) (fun hc => ?_) (fun hc => ?_)
      · have h := hO_t hc h
        refine X_iconst (dk KX9_caravan 35 rfl) (-1) (by decide) ?_
        exact Y_iret (dk KX9_caravan 36 rfl) rfl h
      · have h := hO_f hc h
        refine X_iload_n 2 rfl (dk KX9_caravan 9 rfl) ?_
        refine X_iconst (dk KX9_caravan 10 rfl) 1 (by decide) ?_
        refine X_icmp_lt 73 (dk KX9_caravan 11 rfl) (by decide) (fun hc => ?_) (fun hc => ?_)
        · have h := hO_t hc h
          refine X_iconst (dk KX9_caravan 35 rfl) (-1) (by decide) ?_
          exact Y_iret (dk KX9_caravan 36 rfl) rfl h
        · have h := hO_f hc h
          refine X_iload_n 2 rfl (dk KX9_caravan 12 rfl) ?_
          refine X_bipush (dk KX9_caravan 13 rfl) 30 (by decide) ?_
          refine X_icmp_gt 73 (dk KX9_caravan 14 rfl) (by decide) (fun hc => ?_) (fun hc => ?_)
          · have h := hO_t hc h
            refine X_iconst (dk KX9_caravan 35 rfl) (-1) (by decide) ?_
            exact Y_iret (dk KX9_caravan 36 rfl) rfl h
          · have h := hO_f hc h
            refine X_iload_n 3 rfl (dk KX9_caravan 15 rfl) ?_
            refine X_iconst (dk KX9_caravan 16 rfl) 1 (by decide) ?_
            refine X_icmp_lt 73 (dk KX9_caravan 17 rfl) (by decide) (fun hc => ?_) (fun hc => ?_)
            · have h := hO_t hc h
              refine X_iconst (dk KX9_caravan 35 rfl) (-1) (by decide) ?_
              exact Y_iret (dk KX9_caravan 36 rfl) rfl h
            · have h := hO_f hc h
              refine X_iload_n 3 rfl (dk KX9_caravan 18 rfl) ?_
              refine X_bipush (dk KX9_caravan 19 rfl) 9 (by decide) ?_
              refine X_icmp_gt 73 (dk KX9_caravan 20 rfl) (by decide) (fun hc => ?_) (fun hc => ?_)
              · have h := hO_t hc h
                refine X_iconst (dk KX9_caravan 35 rfl) (-1) (by decide) ?_
                exact Y_iret (dk KX9_caravan 36 rfl) rfl h
              · have h := hO_f hc h
                refine X_aload_n 0 rfl (dk KX9_caravan 21 rfl) ?_
                refine X_iload 4 rfl (dk KX9_caravan 22 rfl) ?_
                refine Y_callVI wX9_318 (Nat.le_of_ble_eq_true rfl) rfl [.int a4] [] rfl rfl (Nat.le_of_ble_eq_true rfl) (Nat.le_of_ble_eq_true rfl) (dk KX9_caravan 23 rfl) (fun Pc h => okX9_isInn _ _ Pc h) h (fun y1 σ2 e3 h => ?_)
                try dsimp only at h
                refine X_if_eq 73 (dk KX9_caravan 24 rfl) (by decide) (fun hc => ?_) (fun hc => ?_)
                · have h := hO_t hc h
                  refine X_iconst (dk KX9_caravan 35 rfl) (-1) (by decide) ?_
                  exact Y_iret (dk KX9_caravan 36 rfl) rfl h
                · have h := hO_f hc h
                  refine X_aload_n 0 rfl (dk KX9_caravan 25 rfl) ?_
                  refine X_iload 5 rfl (dk KX9_caravan 26 rfl) ?_
                  refine Y_callVI wX9_318 (Nat.le_of_ble_eq_true rfl) rfl [.int a5] [] rfl rfl (Nat.le_of_ble_eq_true rfl) (Nat.le_of_ble_eq_true rfl) (dk KX9_caravan 27 rfl) (fun Pc h => okX9_isInn _ _ Pc h) h (fun y4 σ5 e6 h => ?_)
                  try dsimp only at h
                  refine X_if_eq 73 (dk KX9_caravan 28 rfl) (by decide) (fun hc => ?_) (fun hc => ?_)
                  · have h := hO_t hc h
                    refine X_iconst (dk KX9_caravan 35 rfl) (-1) (by decide) ?_
                    exact Y_iret (dk KX9_caravan 36 rfl) rfl h
                  · have h := hO_f hc h
                    refine X_iload 4 rfl (dk KX9_caravan 29 rfl) ?_
                    refine X_iload 5 rfl (dk KX9_caravan 30 rfl) ?_
                    refine X_icmp_eq 73 (dk KX9_caravan 31 rfl) (by decide) (fun hc => ?_) (fun hc => ?_)
                    · have h := hO_t hc h
                      refine X_iconst (dk KX9_caravan 35 rfl) (-1) (by decide) ?_
                      exact Y_iret (dk KX9_caravan 36 rfl) rfl h
                    · have h := hO_f hc h
                      refine X_iload 6 rfl (dk KX9_caravan 32 rfl) ?_
                      refine Y_callSI wX9_321 [.int a6] [] rfl rfl (Nat.le_of_ble_eq_true rfl) (Nat.le_of_ble_eq_true rfl) (dk KX9_caravan 33 rfl) (fun Pc h => okX9_isDay _ _ Pc h) h (fun y7 σ8 e9 h => ?_)
                      try dsimp only at h
                      refine X_if_ne 75 (dk KX9_caravan 34 rfl) (by decide) (fun hc => ?_) (fun hc => ?_)
                      · have h := hO_f hc h
                        refine X_aload_n 0 rfl (dk KX9_caravan 37 rfl) ?_
                        refine Y_getR 161 fX9_104 (Nat.le_of_ble_eq_true rfl) rfl rfl (dk KX9_caravan 38 rfl) ?_
                        refine X_aload_n 0 rfl (dk KX9_caravan 39 rfl) ?_
                        refine Y_getI fX9_312 (Nat.le_of_ble_eq_true rfl) rfl (dk KX9_caravan 40 rfl) ?_
                        refine X_iload_n 1 rfl (dk KX9_caravan 41 rfl) ?_
                        refine Y_iast (Nat.le_of_ble_eq_true rfl) rfl (dk KX9_caravan 42 rfl) h (fun hi10 h => ?_)
                        refine X_aload_n 0 rfl (dk KX9_caravan 43 rfl) ?_
                        refine Y_getR 162 fX9_107 (Nat.le_of_ble_eq_true rfl) rfl rfl (dk KX9_caravan 44 rfl) ?_
                        refine X_aload_n 0 rfl (dk KX9_caravan 45 rfl) ?_
                        refine Y_getI fX9_312 (Nat.le_of_ble_eq_true rfl) rfl (dk KX9_caravan 46 rfl) ?_
                        refine X_iload_n 2 rfl (dk KX9_caravan 47 rfl) ?_
                        refine Y_iast (Nat.le_of_ble_eq_true rfl) rfl (dk KX9_caravan 48 rfl) h (fun hi11 h => ?_)
                        refine X_aload_n 0 rfl (dk KX9_caravan 49 rfl) ?_
                        refine Y_getR 163 fX9_110 (Nat.le_of_ble_eq_true rfl) rfl rfl (dk KX9_caravan 50 rfl) ?_
                        refine X_aload_n 0 rfl (dk KX9_caravan 51 rfl) ?_
                        refine Y_getI fX9_312 (Nat.le_of_ble_eq_true rfl) rfl (dk KX9_caravan 52 rfl) ?_
                        refine X_iload_n 3 rfl (dk KX9_caravan 53 rfl) ?_
                        refine Y_iast (Nat.le_of_ble_eq_true rfl) rfl (dk KX9_caravan 54 rfl) h (fun hi12 h => ?_)
                        refine X_aload_n 0 rfl (dk KX9_caravan 55 rfl) ?_
                        refine Y_getR 164 fX9_113 (Nat.le_of_ble_eq_true rfl) rfl rfl (dk KX9_caravan 56 rfl) ?_
                        refine X_aload_n 0 rfl (dk KX9_caravan 57 rfl) ?_
                        refine Y_getI fX9_312 (Nat.le_of_ble_eq_true rfl) rfl (dk KX9_caravan 58 rfl) ?_
                        refine X_iload 4 rfl (dk KX9_caravan 59 rfl) ?_
                        refine Y_iast (Nat.le_of_ble_eq_true rfl) rfl (dk KX9_caravan 60 rfl) h (fun hi13 h => ?_)
                        refine X_aload_n 0 rfl (dk KX9_caravan 61 rfl) ?_
                        refine Y_getR 165 fX9_116 (Nat.le_of_ble_eq_true rfl) rfl rfl (dk KX9_caravan 62 rfl) ?_
                        refine X_aload_n 0 rfl (dk KX9_caravan 63 rfl) ?_
                        refine Y_getI fX9_312 (Nat.le_of_ble_eq_true rfl) rfl (dk KX9_caravan 64 rfl) ?_
                        refine X_iload 5 rfl (dk KX9_caravan 65 rfl) ?_
                        refine Y_iast (Nat.le_of_ble_eq_true rfl) rfl (dk KX9_caravan 66 rfl) h (fun hi14 h => ?_)
                        refine X_aload_n 0 rfl (dk KX9_caravan 67 rfl) ?_
                        refine Y_getR 166 fX9_119 (Nat.le_of_ble_eq_true rfl) rfl rfl (dk KX9_caravan 68 rfl) ?_
                        refine X_aload_n 0 rfl (dk KX9_caravan 69 rfl) ?_
                        refine Y_getI fX9_312 (Nat.le_of_ble_eq_true rfl) rfl (dk KX9_caravan 70 rfl) ?_
                        refine X_iload 6 rfl (dk KX9_caravan 71 rfl) ?_
                        refine Y_iast (Nat.le_of_ble_eq_true rfl) rfl (dk KX9_caravan 72 rfl) h (fun hi15 h => ?_)
                        refine X_aload_n 0 rfl (dk KX9_caravan 73 rfl) ?_
                        refine Y_getR 167 fX9_122 (Nat.le_of_ble_eq_true rfl) rfl rfl (dk KX9_caravan 74 rfl) ?_
                        refine X_aload_n 0 rfl (dk KX9_caravan 75 rfl) ?_
                        refine Y_getI fX9_312 (Nat.le_of_ble_eq_true rfl) rfl (dk KX9_caravan 76 rfl) ?_
                        refine X_iconst (dk KX9_caravan 77 rfl) 0 (by decide) ?_
                        refine Y_iast (Nat.le_of_ble_eq_true rfl) rfl (dk KX9_caravan 78 rfl) h (fun hi16 h => ?_)
                        refine X_aload_n 0 rfl (dk KX9_caravan 79 rfl) ?_
                        refine X_dup (dk KX9_caravan 80 rfl) rfl ?_
                        refine Y_getI fX9_312 (Nat.le_of_ble_eq_true rfl) rfl (dk KX9_caravan 81 rfl) ?_
                        refine X_iconst (dk KX9_caravan 82 rfl) 1 (by decide) ?_
                        refine X_iadd (dk KX9_caravan 83 rfl) ?_
                        refine Y_putI fX9_312 rfl (Nat.le_of_ble_eq_true rfl) rfl (dk KX9_caravan 84 rfl) ?_
                        refine X_aload_n 0 rfl (dk KX9_caravan 85 rfl) ?_
                        refine X_iconst (dk KX9_caravan 86 rfl) (-1) (by decide) ?_
                        refine Y_putI fX9_137 rfl (Nat.le_of_ble_eq_true rfl) rfl (dk KX9_caravan 87 rfl) ?_
                        refine X_aload_n 0 rfl (dk KX9_caravan 88 rfl) ?_
                        refine Y_getI fX9_312 (Nat.le_of_ble_eq_true rfl) rfl (dk KX9_caravan 89 rfl) ?_
                        refine X_iconst (dk KX9_caravan 90 rfl) 1 (by decide) ?_
                        refine X_isub (dk KX9_caravan 91 rfl) ?_
                        exact Y_iret (dk KX9_caravan 92 rfl) rfl h
                      · have h := hO_t hc h
                        refine X_iconst (dk KX9_caravan 35 rfl) (-1) (by decide) ?_
                        exact Y_iret (dk KX9_caravan 36 rfl) rfl h

def fX9_bale (a1 : Int32) (σ : PS) : Option (Int32 × PS) := (if (gi σ 132 52) = 60 then some ((-1), σ) else (fX9_isCaravan a1 σ).bind (fun qy1 => (fun (y1 : Int32) (σ2 : PS) => (if y1 = 0 then some ((-1), σ2) else gd (inb (gi σ2 132 52) 60) (gd (inb a1 6) (gd (inb a1 6) (some (((gi (sI (sI (sI (sI σ2 168 ((gi σ2 132 52) : Int32).toNatClampNeg a1) 167 (a1 : Int32).toNatClampNeg ((gi (sI σ2 168 ((gi σ2 132 52) : Int32).toNatClampNeg a1) 167 (a1 : Int32).toNatClampNeg) + 1)) 132 52 ((gi (sI (sI σ2 168 ((gi σ2 132 52) : Int32).toNatClampNeg a1) 167 (a1 : Int32).toNatClampNeg ((gi (sI σ2 168 ((gi σ2 132 52) : Int32).toNatClampNeg a1) 167 (a1 : Int32).toNatClampNeg) + 1)) 132 52) + 1)) 132 58 (-1)) 132 52) - 1), (sI (sI (sI (sI σ2 168 ((gi σ2 132 52) : Int32).toNatClampNeg a1) 167 (a1 : Int32).toNatClampNeg ((gi (sI σ2 168 ((gi σ2 132 52) : Int32).toNatClampNeg a1) 167 (a1 : Int32).toNatClampNeg) + 1)) 132 52 ((gi (sI (sI σ2 168 ((gi σ2 132 52) : Int32).toNatClampNeg a1) 167 (a1 : Int32).toNatClampNeg ((gi (sI σ2 168 ((gi σ2 132 52) : Int32).toNatClampNeg a1) 167 (a1 : Int32).toNatClampNeg) + 1)) 132 52) + 1)) 132 58 (-1)))))))) qy1.1 qy1.2))
set_option maxRecDepth 100000 in
set_option maxHeartbeats 4000000 in
theorem okX9_bale (a1 : Int32) (σ : PS) (P : Int32 × PS → Prop) (h : hO (fX9_bale a1 σ) P) : CON g mX9_bale 1 0 0 [.ref 132, .int a1] (HP σ) (pI P) := by
  refine CON.of (by decide) (by simp [lg_sl, Value.category]) ?_
  show X g _ _ _ _ _ 0 [(0, .ref 132), (1, .int a1)] [] _
  unfold fX9_bale at h
  refine X_aload_n 0 rfl (dk KX9_bale 0 rfl) ?_
  refine Y_getI fX9_324 (Nat.le_of_ble_eq_true rfl) rfl (dk KX9_bale 1 rfl) ?_
  refine X_bipush (dk KX9_bale 2 rfl) 60 (by decide) ?_
  refine X_icmp_eq 17 (dk KX9_bale 3 rfl) (by decide) (fun hc => ?_) (fun hc => ?_)
  · have h := hO_t hc h
    refine X_iconst (dk KX9_bale 8 rfl) (-1) (by decide) ?_
    exact Y_iret (dk KX9_bale 9 rfl) rfl h
  · have h := hO_f hc h
    refine X_aload_n 0 rfl (dk KX9_bale 4 rfl) ?_
    refine X_iload_n 1 rfl (dk KX9_bale 5 rfl) ?_
    refine Y_callVI wX9_327 (Nat.le_of_ble_eq_true rfl) rfl [.int a1] [] rfl rfl (Nat.le_of_ble_eq_true rfl) (Nat.le_of_ble_eq_true rfl) (dk KX9_bale 6 rfl) (fun Pc h => okX9_isCaravan _ _ Pc h) h (fun y1 σ2 e3 h => ?_)
    try dsimp only at h
    refine X_if_ne 19 (dk KX9_bale 7 rfl) (by decide) (fun hc => ?_) (fun hc => ?_)
    · have h := hO_f hc h
      refine X_aload_n 0 rfl (dk KX9_bale 10 rfl) ?_
      refine Y_getR 168 fX9_125 (Nat.le_of_ble_eq_true rfl) rfl rfl (dk KX9_bale 11 rfl) ?_
      refine X_aload_n 0 rfl (dk KX9_bale 12 rfl) ?_
      refine Y_getI fX9_324 (Nat.le_of_ble_eq_true rfl) rfl (dk KX9_bale 13 rfl) ?_
      refine X_iload_n 1 rfl (dk KX9_bale 14 rfl) ?_
      refine Y_iast (Nat.le_of_ble_eq_true rfl) rfl (dk KX9_bale 15 rfl) h (fun hi4 h => ?_)
      refine X_aload_n 0 rfl (dk KX9_bale 16 rfl) ?_
      refine Y_getR 167 fX9_122 (Nat.le_of_ble_eq_true rfl) rfl rfl (dk KX9_bale 17 rfl) ?_
      refine X_iload_n 1 rfl (dk KX9_bale 18 rfl) ?_
      refine X_dup2 (dk KX9_bale 19 rfl) rfl rfl ?_
      refine Y_iald (Nat.le_of_ble_eq_true rfl) rfl (dk KX9_bale 20 rfl) h (fun hi5 h => ?_)
      refine X_iconst (dk KX9_bale 21 rfl) 1 (by decide) ?_
      refine X_iadd (dk KX9_bale 22 rfl) ?_
      refine Y_iast (Nat.le_of_ble_eq_true rfl) rfl (dk KX9_bale 23 rfl) h (fun hi6 h => ?_)
      refine X_aload_n 0 rfl (dk KX9_bale 24 rfl) ?_
      refine X_dup (dk KX9_bale 25 rfl) rfl ?_
      refine Y_getI fX9_324 (Nat.le_of_ble_eq_true rfl) rfl (dk KX9_bale 26 rfl) ?_
      refine X_iconst (dk KX9_bale 27 rfl) 1 (by decide) ?_
      refine X_iadd (dk KX9_bale 28 rfl) ?_
      refine Y_putI fX9_324 rfl (Nat.le_of_ble_eq_true rfl) rfl (dk KX9_bale 29 rfl) ?_
      refine X_aload_n 0 rfl (dk KX9_bale 30 rfl) ?_
      refine X_iconst (dk KX9_bale 31 rfl) (-1) (by decide) ?_
      refine Y_putI fX9_137 rfl (Nat.le_of_ble_eq_true rfl) rfl (dk KX9_bale 32 rfl) ?_
      refine X_aload_n 0 rfl (dk KX9_bale 33 rfl) ?_
      refine Y_getI fX9_324 (Nat.le_of_ble_eq_true rfl) rfl (dk KX9_bale 34 rfl) ?_
      refine X_iconst (dk KX9_bale 35 rfl) 1 (by decide) ?_
      refine X_isub (dk KX9_bale 36 rfl) ?_
      exact Y_iret (dk KX9_bale 37 rfl) rfl h
    · have h := hO_t hc h
      refine X_iconst (dk KX9_bale 8 rfl) (-1) (by decide) ?_
      exact Y_iret (dk KX9_bale 9 rfl) rfl h

def fX9_fact (a1 : Int32) (a2 : Int32) (a3 : Int32) (σ : PS) : Option (Int32 × PS) := gd (inb (gi σ 132 54) 300) (gd (inb (gi (sI σ 169 ((gi σ 132 54) : Int32).toNatClampNeg a1) 132 54) 300) (gd (inb (gi (sI (sI σ 169 ((gi σ 132 54) : Int32).toNatClampNeg a1) 170 ((gi (sI σ 169 ((gi σ 132 54) : Int32).toNatClampNeg a1) 132 54) : Int32).toNatClampNeg a2) 132 54) 300) (some (((gi (sI (sI (sI (sI σ 169 ((gi σ 132 54) : Int32).toNatClampNeg a1) 170 ((gi (sI σ 169 ((gi σ 132 54) : Int32).toNatClampNeg a1) 132 54) : Int32).toNatClampNeg a2) 171 ((gi (sI (sI σ 169 ((gi σ 132 54) : Int32).toNatClampNeg a1) 170 ((gi (sI σ 169 ((gi σ 132 54) : Int32).toNatClampNeg a1) 132 54) : Int32).toNatClampNeg a2) 132 54) : Int32).toNatClampNeg a3) 132 54 ((gi (sI (sI (sI σ 169 ((gi σ 132 54) : Int32).toNatClampNeg a1) 170 ((gi (sI σ 169 ((gi σ 132 54) : Int32).toNatClampNeg a1) 132 54) : Int32).toNatClampNeg a2) 171 ((gi (sI (sI σ 169 ((gi σ 132 54) : Int32).toNatClampNeg a1) 170 ((gi (sI σ 169 ((gi σ 132 54) : Int32).toNatClampNeg a1) 132 54) : Int32).toNatClampNeg a2) 132 54) : Int32).toNatClampNeg a3) 132 54) + 1)) 132 54) - 1), (sI (sI (sI (sI σ 169 ((gi σ 132 54) : Int32).toNatClampNeg a1) 170 ((gi (sI σ 169 ((gi σ 132 54) : Int32).toNatClampNeg a1) 132 54) : Int32).toNatClampNeg a2) 171 ((gi (sI (sI σ 169 ((gi σ 132 54) : Int32).toNatClampNeg a1) 170 ((gi (sI σ 169 ((gi σ 132 54) : Int32).toNatClampNeg a1) 132 54) : Int32).toNatClampNeg a2) 132 54) : Int32).toNatClampNeg a3) 132 54 ((gi (sI (sI (sI σ 169 ((gi σ 132 54) : Int32).toNatClampNeg a1) 170 ((gi (sI σ 169 ((gi σ 132 54) : Int32).toNatClampNeg a1) 132 54) : Int32).toNatClampNeg a2) 171 ((gi (sI (sI σ 169 ((gi σ 132 54) : Int32).toNatClampNeg a1) 170 ((gi (sI σ 169 ((gi σ 132 54) : Int32).toNatClampNeg a1) 132 54) : Int32).toNatClampNeg a2) 132 54) : Int32).toNatClampNeg a3) 132 54) + 1))))))
set_option maxRecDepth 100000 in
set_option maxHeartbeats 4000000 in
theorem okX9_fact (a1 : Int32) (a2 : Int32) (a3 : Int32) (σ : PS) (P : Int32 × PS → Prop) (h : hO (fX9_fact a1 a2 a3 σ) P) : CON g mX9_fact 0 0 0 [.ref 132, .int a1, .int a2, .int a3] (HP σ) (pI P) := by
  refine CON.of (by decide) (by simp [lg_sl, Value.category]) ?_
  show X g _ _ _ _ _ 0 [(0, .ref 132), (1, .int a1), (2, .int a2), (3, .int a3)] [] _
  unfold fX9_fact at h
  refine X_aload_n 0 rfl (dk KX9_fact 0 rfl) ?_
  refine Y_getR 169 fX9_128 (Nat.le_of_ble_eq_true rfl) rfl rfl (dk KX9_fact 1 rfl) ?_
  refine X_aload_n 0 rfl (dk KX9_fact 2 rfl) ?_
  refine Y_getI fX9_315 (Nat.le_of_ble_eq_true rfl) rfl (dk KX9_fact 3 rfl) ?_
  refine X_iload_n 1 rfl (dk KX9_fact 4 rfl) ?_
  refine Y_iast (Nat.le_of_ble_eq_true rfl) rfl (dk KX9_fact 5 rfl) h (fun hi1 h => ?_)
  refine X_aload_n 0 rfl (dk KX9_fact 6 rfl) ?_
  refine Y_getR 170 fX9_131 (Nat.le_of_ble_eq_true rfl) rfl rfl (dk KX9_fact 7 rfl) ?_
  refine X_aload_n 0 rfl (dk KX9_fact 8 rfl) ?_
  refine Y_getI fX9_315 (Nat.le_of_ble_eq_true rfl) rfl (dk KX9_fact 9 rfl) ?_
  refine X_iload_n 2 rfl (dk KX9_fact 10 rfl) ?_
  refine Y_iast (Nat.le_of_ble_eq_true rfl) rfl (dk KX9_fact 11 rfl) h (fun hi2 h => ?_)
  refine X_aload_n 0 rfl (dk KX9_fact 12 rfl) ?_
  refine Y_getR 171 fX9_134 (Nat.le_of_ble_eq_true rfl) rfl rfl (dk KX9_fact 13 rfl) ?_
  refine X_aload_n 0 rfl (dk KX9_fact 14 rfl) ?_
  refine Y_getI fX9_315 (Nat.le_of_ble_eq_true rfl) rfl (dk KX9_fact 15 rfl) ?_
  refine X_iload_n 3 rfl (dk KX9_fact 16 rfl) ?_
  refine Y_iast (Nat.le_of_ble_eq_true rfl) rfl (dk KX9_fact 17 rfl) h (fun hi3 h => ?_)
  refine X_aload_n 0 rfl (dk KX9_fact 18 rfl) ?_
  refine X_dup (dk KX9_fact 19 rfl) rfl ?_
  refine Y_getI fX9_315 (Nat.le_of_ble_eq_true rfl) rfl (dk KX9_fact 20 rfl) ?_
  refine X_iconst (dk KX9_fact 21 rfl) 1 (by decide) ?_
  refine X_iadd (dk KX9_fact 22 rfl) ?_
  refine Y_putI fX9_315 rfl (Nat.le_of_ble_eq_true rfl) rfl (dk KX9_fact 23 rfl) ?_
  refine X_aload_n 0 rfl (dk KX9_fact 24 rfl) ?_
  refine Y_getI fX9_315 (Nat.le_of_ble_eq_true rfl) rfl (dk KX9_fact 25 rfl) ?_
  refine X_iconst (dk KX9_fact 26 rfl) 1 (by decide) ?_
  refine X_isub (dk KX9_fact 27 rfl) ?_
  exact Y_iret (dk KX9_fact 28 rfl) rfl h

def fX9_shut (a1 : Int32) (a2 : Int32) (σ : PS) : Option (Int32 × PS) := (if (gi σ 132 54) = 300 then some ((-1), σ) else (if a1 < 0 then some ((-1), σ) else (if ((gi σ 132 38) - 1) ≤ a1 then some ((-1), σ) else (fX9_isDay a2 σ).bind (fun qy1 => (fun (y1 : Int32) (σ2 : PS) => (if y1 = 0 then some ((-1), σ2) else (fX9_fact 0 a1 a2 σ2).bind (fun qy4 => (fun (y4 : Int32) (σ5 : PS) => some (y4, σ5)) qy4.1 qy4.2))) qy1.1 qy1.2))))
set_option maxRecDepth 100000 in
set_option maxHeartbeats 4000000 in
theorem okX9_shut (a1 : Int32) (a2 : Int32) (σ : PS) (P : Int32 × PS → Prop) (h : hO (fX9_shut a1 a2 σ) P) : CON g mX9_shut 1 0 0 [.ref 132, .int a1, .int a2] (HP σ) (pI P) := by
  refine CON.of (by decide) (by simp [lg_sl, Value.category]) ?_
  show X g _ _ _ _ _ 0 [(0, .ref 132), (1, .int a1), (2, .int a2)] [] _
  unfold fX9_shut at h
  refine X_aload_n 0 rfl (dk KX9_shut 0 rfl) ?_
  refine Y_getI fX9_315 (Nat.le_of_ble_eq_true rfl) rfl (dk KX9_shut 1 rfl) ?_
  refine X_sipush (dk KX9_shut 2 rfl) 300 (by decide) ?_
  refine X_icmp_eq 31 (dk KX9_shut 3 rfl) (by decide) (fun hc => ?_) (fun hc => ?_)
  · have h := hO_t hc h
    refine X_iconst (dk KX9_shut 15 rfl) (-1) (by decide) ?_
    refine X_goto 42 (dk KX9_shut 16 rfl) (by decide) ?_
    exact Y_iret (dk KX9_shut 22 rfl) rfl h
  · have h := hO_f hc h
    refine X_iload_n 1 rfl (dk KX9_shut 4 rfl) ?_
    refine X_if_lt 31 (dk KX9_shut 5 rfl) (by decide) (fun hc => ?_) (fun hc => ?_)
    · have h := hO_t hc h
      refine X_iconst (dk KX9_shut 15 rfl) (-1) (by decide) ?_
      refine X_goto 42 (dk KX9_shut 16 rfl) (by decide) ?_
      exact Y_iret (dk KX9_shut 22 rfl) rfl h
    · have h := hO_f hc h
      refine X_iload_n 1 rfl (dk KX9_shut 6 rfl) ?_
      refine X_aload_n 0 rfl (dk KX9_shut 7 rfl) ?_
      refine Y_getI fX9_309 (Nat.le_of_ble_eq_true rfl) rfl (dk KX9_shut 8 rfl) ?_
      refine X_iconst (dk KX9_shut 9 rfl) 1 (by decide) ?_
      refine X_isub (dk KX9_shut 10 rfl) ?_
      refine X_icmp_ge 31 (dk KX9_shut 11 rfl) (by decide) (fun hc => ?_) (fun hc => ?_)
      · have h := hO_t hc h
        refine X_iconst (dk KX9_shut 15 rfl) (-1) (by decide) ?_
        refine X_goto 42 (dk KX9_shut 16 rfl) (by decide) ?_
        exact Y_iret (dk KX9_shut 22 rfl) rfl h
      · have h := hO_f hc h
        refine X_iload_n 2 rfl (dk KX9_shut 12 rfl) ?_
        refine Y_callSI wX9_321 [.int a2] [] rfl rfl (Nat.le_of_ble_eq_true rfl) (Nat.le_of_ble_eq_true rfl) (dk KX9_shut 13 rfl) (fun Pc h => okX9_isDay _ _ Pc h) h (fun y1 σ2 e3 h => ?_)
        try dsimp only at h
        refine X_if_ne 35 (dk KX9_shut 14 rfl) (by decide) (fun hc => ?_) (fun hc => ?_)
        · have h := hO_f hc h
          refine X_aload_n 0 rfl (dk KX9_shut 17 rfl) ?_
          refine X_iconst (dk KX9_shut 18 rfl) 0 (by decide) ?_
          refine X_iload_n 1 rfl (dk KX9_shut 19 rfl) ?_
          refine X_iload_n 2 rfl (dk KX9_shut 20 rfl) ?_
          refine Y_callVI wX9_330 (Nat.le_of_ble_eq_true rfl) rfl [.int 0, .int a1, .int a2] [] rfl rfl (Nat.le_of_ble_eq_true rfl) (Nat.le_of_ble_eq_true rfl) (dk KX9_shut 21 rfl) (fun Pc h => okX9_fact _ _ _ _ Pc h) h (fun y4 σ5 e6 h => ?_)
          try dsimp only at h
          exact Y_iret (dk KX9_shut 22 rfl) rfl h
        · have h := hO_t hc h
          refine X_iconst (dk KX9_shut 15 rfl) (-1) (by decide) ?_
          refine X_goto 42 (dk KX9_shut 16 rfl) (by decide) ?_
          exact Y_iret (dk KX9_shut 22 rfl) rfl h

def fX9_look (a1 : Int32) (a2 : Int32) (a3 : Int32) (σ : PS) : Option (Int32 × PS) := (if (gi σ 132 54) = 300 then some ((-1), σ) else (if a1 < 0 then some ((-1), σ) else (if (gi σ 132 52) ≤ a1 then some ((-1), σ) else (fX9_isDay a2 σ).bind (fun qy1 => (fun (y1 : Int32) (σ2 : PS) => (if y1 = 0 then some ((-1), σ2) else (if a3 = 0 then (fX9_fact 1 a1 a2 σ2).bind (fun qy4 => (fun (y4 : Int32) (σ5 : PS) => some (y4, σ5)) qy4.1 qy4.2) else (fX9_fact 2 a1 a2 σ2).bind (fun qy7 => (fun (y7 : Int32) (σ8 : PS) => some (y7, σ8)) qy7.1 qy7.2)))) qy1.1 qy1.2))))
set_option maxRecDepth 100000 in
set_option maxHeartbeats 4000000 in
theorem okX9_look (a1 : Int32) (a2 : Int32) (a3 : Int32) (σ : PS) (P : Int32 × PS → Prop) (h : hO (fX9_look a1 a2 a3 σ) P) : CON g mX9_look 1 0 0 [.ref 132, .int a1, .int a2, .int a3] (HP σ) (pI P) := by
  refine CON.of (by decide) (by simp [lg_sl, Value.category]) ?_
  show X g _ _ _ _ _ 0 [(0, .ref 132), (1, .int a1), (2, .int a2), (3, .int a3)] [] _
  unfold fX9_look at h
  refine X_aload_n 0 rfl (dk KX9_look 0 rfl) ?_
  refine Y_getI fX9_315 (Nat.le_of_ble_eq_true rfl) rfl (dk KX9_look 1 rfl) ?_
  refine X_sipush (dk KX9_look 2 rfl) 300 (by decide) ?_
  refine X_icmp_eq 29 (dk KX9_look 3 rfl) (by decide) (fun hc => ?_) (fun hc => ?_)
  · have h := hO_t hc h
    refine X_iconst (dk KX9_look 13 rfl) (-1) (by decide) ?_
    refine X_goto 48 (dk KX9_look 14 rfl) (by decide) ?_
    exact Y_iret (dk KX9_look 24 rfl) rfl h
  · have h := hO_f hc h
    refine X_iload_n 1 rfl (dk KX9_look 4 rfl) ?_
    refine X_if_lt 29 (dk KX9_look 5 rfl) (by decide) (fun hc => ?_) (fun hc => ?_)
    · have h := hO_t hc h
      refine X_iconst (dk KX9_look 13 rfl) (-1) (by decide) ?_
      refine X_goto 48 (dk KX9_look 14 rfl) (by decide) ?_
      exact Y_iret (dk KX9_look 24 rfl) rfl h
    · have h := hO_f hc h
      refine X_iload_n 1 rfl (dk KX9_look 6 rfl) ?_
      refine X_aload_n 0 rfl (dk KX9_look 7 rfl) ?_
      refine Y_getI fX9_324 (Nat.le_of_ble_eq_true rfl) rfl (dk KX9_look 8 rfl) ?_
      refine X_icmp_ge 29 (dk KX9_look 9 rfl) (by decide) (fun hc => ?_) (fun hc => ?_)
      · have h := hO_t hc h
        refine X_iconst (dk KX9_look 13 rfl) (-1) (by decide) ?_
        refine X_goto 48 (dk KX9_look 14 rfl) (by decide) ?_
        exact Y_iret (dk KX9_look 24 rfl) rfl h
      · have h := hO_f hc h
        refine X_iload_n 2 rfl (dk KX9_look 10 rfl) ?_
        refine Y_callSI wX9_321 [.int a2] [] rfl rfl (Nat.le_of_ble_eq_true rfl) (Nat.le_of_ble_eq_true rfl) (dk KX9_look 11 rfl) (fun Pc h => okX9_isDay _ _ Pc h) h (fun y1 σ2 e3 h => ?_)
        try dsimp only at h
        refine X_if_ne 33 (dk KX9_look 12 rfl) (by decide) (fun hc => ?_) (fun hc => ?_)
        · have h := hO_f hc h
          refine X_aload_n 0 rfl (dk KX9_look 15 rfl) ?_
          refine X_iload_n 3 rfl (dk KX9_look 16 rfl) ?_
          refine X_if_eq 42 (dk KX9_look 17 rfl) (by decide) (fun hc => ?_) (fun hc => ?_)
          · have h := hO_t hc h
            refine X_iconst (dk KX9_look 20 rfl) 1 (by decide) ?_
            refine X_iload_n 1 rfl (dk KX9_look 21 rfl) ?_
            refine X_iload_n 2 rfl (dk KX9_look 22 rfl) ?_
            refine Y_callVI wX9_330 (Nat.le_of_ble_eq_true rfl) rfl [.int 1, .int a1, .int a2] [] rfl rfl (Nat.le_of_ble_eq_true rfl) (Nat.le_of_ble_eq_true rfl) (dk KX9_look 23 rfl) (fun Pc h => okX9_fact _ _ _ _ Pc h) h (fun y4 σ5 e6 h => ?_)
            try dsimp only at h
            exact Y_iret (dk KX9_look 24 rfl) rfl h
          · have h := hO_f hc h
            refine X_iconst (dk KX9_look 18 rfl) 2 (by decide) ?_
            refine X_goto 43 (dk KX9_look 19 rfl) (by decide) ?_
            refine X_iload_n 1 rfl (dk KX9_look 21 rfl) ?_
            refine X_iload_n 2 rfl (dk KX9_look 22 rfl) ?_
            refine Y_callVI wX9_330 (Nat.le_of_ble_eq_true rfl) rfl [.int 2, .int a1, .int a2] [] rfl rfl (Nat.le_of_ble_eq_true rfl) (Nat.le_of_ble_eq_true rfl) (dk KX9_look 23 rfl) (fun Pc h => okX9_fact _ _ _ _ Pc h) h (fun y7 σ8 e9 h => ?_)
            try dsimp only at h
            exact Y_iret (dk KX9_look 24 rfl) rfl h
        · have h := hO_t hc h
          refine X_iconst (dk KX9_look 13 rfl) (-1) (by decide) ?_
          refine X_goto 48 (dk KX9_look 14 rfl) (by decide) ?_
          exact Y_iret (dk KX9_look 24 rfl) rfl h

end G
