section G
variable {g : GP}
def fX4_begin (b : Nat)  (σ : PS) : Option (PS) := (fX6_rewind σ).bind (fun σ2 => (fX5_clear b σ2).bind (fun σ5 => some (sI (sI (sI (sI (sI (sI (sI σ5 38 2 0) 38 3 0) 38 4 0) 38 5 0) 38 6 0) 38 7 (-1)) 38 8 (-1))))
set_option maxRecDepth 100000 in
set_option maxHeartbeats 4000000 in
theorem okX4_begin {b : Nat} (hb : isBk b = true)  (σ : PS) (P : PS → Prop) (h : hO (fX4_begin b  σ) P) : CON g mX4_begin 1 0 0 [.ref 38, .ref b] (HP σ) (pV P) := by
  refine CON.of (by decide) (by simp [lg_sl, Value.category]) ?_
  show X g _ _ _ _ _ 0 [(0, .ref 38), (1, .ref b)] [] _
  unfold fX4_begin at h
  refine X_aload_n 0 rfl (dk KX4_begin 0 rfl) ?_
  refine Y_getR 40 fX4_42 (Nat.le_of_ble_eq_true rfl) rfl rfl (dk KX4_begin 1 rfl) ?_
  refine Y_callVV wX4_74 (Nat.le_of_ble_eq_true rfl) rfl [] [] rfl rfl (Nat.le_of_ble_eq_true rfl) (Nat.le_of_ble_eq_true rfl) (dk KX4_begin 2 rfl) (fun Pc h => okX6_rewind _ Pc h) h (fun σ2 e3 h => ?_)
  try dsimp only at h
  refine X_aload_n 1 rfl (dk KX4_begin 3 rfl) ?_
  refine Y_callVV wX4_77 (bk_lt hb) (bk_ob hb) [] [] rfl rfl (Nat.le_of_ble_eq_true rfl) (Nat.le_of_ble_eq_true rfl) (dk KX4_begin 4 rfl) (fun Pc h => okX5_clear hb _ Pc h) h (fun σ5 e6 h => ?_)
  try dsimp only at h
  refine X_aload_n 0 rfl (dk KX4_begin 5 rfl) ?_
  refine X_iconst (dk KX4_begin 6 rfl) 0 (by decide) ?_
  refine Y_putI fX4_15 rfl (Nat.le_of_ble_eq_true rfl) rfl (dk KX4_begin 7 rfl) ?_
  refine X_aload_n 0 rfl (dk KX4_begin 8 rfl) ?_
  refine X_iconst (dk KX4_begin 9 rfl) 0 (by decide) ?_
  refine Y_putI fX4_19 rfl (Nat.le_of_ble_eq_true rfl) rfl (dk KX4_begin 10 rfl) ?_
  refine X_aload_n 0 rfl (dk KX4_begin 11 rfl) ?_
  refine X_iconst (dk KX4_begin 12 rfl) 0 (by decide) ?_
  refine Y_putI fX4_22 rfl (Nat.le_of_ble_eq_true rfl) rfl (dk KX4_begin 13 rfl) ?_
  refine X_aload_n 0 rfl (dk KX4_begin 14 rfl) ?_
  refine X_iconst (dk KX4_begin 15 rfl) 0 (by decide) ?_
  refine Y_putI fX4_25 rfl (Nat.le_of_ble_eq_true rfl) rfl (dk KX4_begin 16 rfl) ?_
  refine X_aload_n 0 rfl (dk KX4_begin 17 rfl) ?_
  refine X_iconst (dk KX4_begin 18 rfl) 0 (by decide) ?_
  refine Y_putI fX4_28 rfl (Nat.le_of_ble_eq_true rfl) rfl (dk KX4_begin 19 rfl) ?_
  refine X_aload_n 0 rfl (dk KX4_begin 20 rfl) ?_
  refine X_iconst (dk KX4_begin 21 rfl) (-1) (by decide) ?_
  refine Y_putI fX4_31 rfl (Nat.le_of_ble_eq_true rfl) rfl (dk KX4_begin 22 rfl) ?_
  refine X_aload_n 0 rfl (dk KX4_begin 23 rfl) ?_
  refine X_iconst (dk KX4_begin 24 rfl) (-1) (by decide) ?_
  refine Y_putI fX4_34 rfl (Nat.le_of_ble_eq_true rfl) rfl (dk KX4_begin 25 rfl) ?_
  exact Y_vret (dk KX4_begin 26 rfl) rfl h

def fX4_blame (a1 : Int32) (a2 : Int32) (σ : PS) : Option (PS) := some (sI (sI σ 38 6 a1) 38 7 a2)
set_option maxRecDepth 100000 in
set_option maxHeartbeats 4000000 in
theorem okX4_blame (a1 : Int32) (a2 : Int32) (σ : PS) (P : PS → Prop) (h : hO (fX4_blame a1 a2 σ) P) : CON g mX4_blame 0 0 0 [.ref 38, .int a1, .int a2] (HP σ) (pV P) := by
  refine CON.of (by decide) (by simp [lg_sl, Value.category]) ?_
  show X g _ _ _ _ _ 0 [(0, .ref 38), (1, .int a1), (2, .int a2)] [] _
  unfold fX4_blame at h
  refine X_aload_n 0 rfl (dk KX4_blame 0 rfl) ?_
  refine X_iload_n 1 rfl (dk KX4_blame 1 rfl) ?_
  refine Y_putI fX4_28 rfl (Nat.le_of_ble_eq_true rfl) rfl (dk KX4_blame 2 rfl) ?_
  refine X_aload_n 0 rfl (dk KX4_blame 3 rfl) ?_
  refine X_iload_n 2 rfl (dk KX4_blame 4 rfl) ?_
  refine Y_putI fX4_31 rfl (Nat.le_of_ble_eq_true rfl) rfl (dk KX4_blame 5 rfl) ?_
  exact Y_vret (dk KX4_blame 6 rfl) rfl h

def fX4_isTooMuch (b : Nat)  (σ : PS) : Option (Int32 × PS) := (if (gi σ 38 3) = 0 then (if (gi σ b 7) < 20 then some (0, σ) else some (1, σ)) else (if (gi σ 40 3) = 25 then (if (gi σ 38 5) < 6 then some (0, σ) else some (1, σ)) else some (0, σ)))
set_option maxRecDepth 100000 in
set_option maxHeartbeats 4000000 in
theorem okX4_isTooMuch {b : Nat} (hb : isBk b = true)  (σ : PS) (P : Int32 × PS → Prop) (h : hO (fX4_isTooMuch b  σ) P) : CON g mX4_isTooMuch 0 0 0 [.ref 38, .ref b] (HP σ) (pI P) := by
  refine CON.of (by decide) (by simp [lg_sl, Value.category]) ?_
  show X g _ _ _ _ _ 0 [(0, .ref 38), (1, .ref b)] [] _
  unfold fX4_isTooMuch at h
  refine X_aload_n 0 rfl (dk KX4_isTooMuch 0 rfl) ?_
  refine Y_getI fX4_19 (Nat.le_of_ble_eq_true rfl) rfl (dk KX4_isTooMuch 1 rfl) ?_
  refine X_if_ne 22 (dk KX4_isTooMuch 2 rfl) (by decide) (fun hc => ?_) (fun hc => ?_)
  · have h := hO_f hc h
    refine X_aload_n 0 rfl (dk KX4_isTooMuch 11 rfl) ?_
    refine Y_getR 40 fX4_42 (Nat.le_of_ble_eq_true rfl) rfl rfl (dk KX4_isTooMuch 12 rfl) ?_
    refine Y_getI fX4_53 (Nat.le_of_ble_eq_true rfl) rfl (dk KX4_isTooMuch 13 rfl) ?_
    refine X_bipush (dk KX4_isTooMuch 14 rfl) 25 (by decide) ?_
    refine X_icmp_ne 47 (dk KX4_isTooMuch 15 rfl) (by decide) (fun hc => ?_) (fun hc => ?_)
    · have h := hO_f hc h
      refine X_iconst (dk KX4_isTooMuch 22 rfl) 0 (by decide) ?_
      exact Y_zret (dk KX4_isTooMuch 23 rfl) rfl (by decide) h
    · have h := hO_t hc h
      refine X_aload_n 0 rfl (dk KX4_isTooMuch 16 rfl) ?_
      refine Y_getI fX4_25 (Nat.le_of_ble_eq_true rfl) rfl (dk KX4_isTooMuch 17 rfl) ?_
      refine X_bipush (dk KX4_isTooMuch 18 rfl) 6 (by decide) ?_
      refine X_icmp_lt 47 (dk KX4_isTooMuch 19 rfl) (by decide) (fun hc => ?_) (fun hc => ?_)
      · have h := hO_t hc h
        refine X_iconst (dk KX4_isTooMuch 22 rfl) 0 (by decide) ?_
        exact Y_zret (dk KX4_isTooMuch 23 rfl) rfl (by decide) h
      · have h := hO_f hc h
        refine X_iconst (dk KX4_isTooMuch 20 rfl) 1 (by decide) ?_
        refine X_goto 48 (dk KX4_isTooMuch 21 rfl) (by decide) ?_
        exact Y_zret (dk KX4_isTooMuch 23 rfl) rfl (by decide) h
  · have h := hO_t hc h
    refine X_aload_n 1 rfl (dk KX4_isTooMuch 3 rfl) ?_
    refine Y_getI fX4_89 (bk_lt hb) (bk_ob hb) (dk KX4_isTooMuch 4 rfl) ?_
    refine X_bipush (dk KX4_isTooMuch 5 rfl) 20 (by decide) ?_
    refine X_icmp_lt 20 (dk KX4_isTooMuch 6 rfl) (by decide) (fun hc => ?_) (fun hc => ?_)
    · have h := hO_t hc h
      refine X_iconst (dk KX4_isTooMuch 9 rfl) 0 (by decide) ?_
      exact Y_zret (dk KX4_isTooMuch 10 rfl) rfl (by decide) h
    · have h := hO_f hc h
      refine X_iconst (dk KX4_isTooMuch 7 rfl) 1 (by decide) ?_
      refine X_goto 21 (dk KX4_isTooMuch 8 rfl) (by decide) ?_
      exact Y_zret (dk KX4_isTooMuch 10 rfl) rfl (by decide) h

def fX4_mayFollowUnit (a1 : Int32) (σ : PS) : Option (Int32 × PS) := (fX8_isWithin a1 18 20 σ).bind (fun qy1 => (fun (y1 : Int32) (σ2 : PS) => (if y1 = 0 then (if (gi σ2 38 5) ≤ 0 then (if (gi σ2 38 4) = 1 then (fX8_isWithin a1 21 24 σ2).bind (fun qy4 => (fun (y4 : Int32) (σ5 : PS) => gd (is01 y4) (some (y4, σ5))) qy4.1 qy4.2) else (if (gi σ2 38 4) = 2 then (if a1 = 8 then some (1, σ2) else (if a1 = 7 then some (1, σ2) else (if a1 = 17 then some (1, σ2) else some (0, σ2)))) else (if a1 = 6 then some (1, σ2) else (if a1 = 17 then some (1, σ2) else some (0, σ2))))) else (if a1 = 26 then some (1, σ2) else some (0, σ2))) else some (1, σ2))) qy1.1 qy1.2)
set_option maxRecDepth 100000 in
set_option maxHeartbeats 4000000 in
theorem okX4_mayFollowUnit (a1 : Int32) (σ : PS) (P : Int32 × PS → Prop) (h : hO (fX4_mayFollowUnit a1 σ) P) : CON g mX4_mayFollowUnit 1 0 0 [.ref 38, .int a1] (HP σ) (pI P) := by
  refine CON.of (by decide) (by simp [lg_sl, Value.category]) ?_
  show X g _ _ _ _ _ 0 [(0, .ref 38), (1, .int a1)] [] _
  unfold fX4_mayFollowUnit at h
  refine X_iload_n 1 rfl (dk KX4_mayFollowUnit 0 rfl) ?_
  refine X_bipush (dk KX4_mayFollowUnit 1 rfl) 18 (by decide) ?_
  refine X_bipush (dk KX4_mayFollowUnit 2 rfl) 20 (by decide) ?_
  refine Y_callNI wX4_82 [.int a1, .int 18, .int 20] [] rfl rfl (Nat.le_of_ble_eq_true rfl) (Nat.le_of_ble_eq_true rfl) (dk KX4_mayFollowUnit 3 rfl) (fun Pc h => okX8_isWithin _ _ _ _ Pc h) h (fun y1 σ2 e3 h => ?_)
  try dsimp only at h
  refine X_if_eq 13 (dk KX4_mayFollowUnit 4 rfl) (by decide) (fun hc => ?_) (fun hc => ?_)
  · have h := hO_t hc h
    refine X_aload_n 0 rfl (dk KX4_mayFollowUnit 7 rfl) ?_
    refine Y_getI fX4_25 (Nat.le_of_ble_eq_true rfl) rfl (dk KX4_mayFollowUnit 8 rfl) ?_
    refine X_if_le 32 (dk KX4_mayFollowUnit 9 rfl) (by decide) (fun hc => ?_) (fun hc => ?_)
    · have h := hO_t hc h
      refine X_aload_n 0 rfl (dk KX4_mayFollowUnit 17 rfl) ?_
      refine Y_getI fX4_22 (Nat.le_of_ble_eq_true rfl) rfl (dk KX4_mayFollowUnit 18 rfl) ?_
      refine X_iconst (dk KX4_mayFollowUnit 19 rfl) 1 (by decide) ?_
      refine X_icmp_ne 49 (dk KX4_mayFollowUnit 20 rfl) (by decide) (fun hc => ?_) (fun hc => ?_)
      · have h := hO_f hc h
        refine X_aload_n 0 rfl (dk KX4_mayFollowUnit 26 rfl) ?_
        refine Y_getI fX4_22 (Nat.le_of_ble_eq_true rfl) rfl (dk KX4_mayFollowUnit 27 rfl) ?_
        refine X_iconst (dk KX4_mayFollowUnit 28 rfl) 2 (by decide) ?_
        refine X_icmp_ne 81 (dk KX4_mayFollowUnit 29 rfl) (by decide) (fun hc => ?_) (fun hc => ?_)
        · have h := hO_f hc h
          refine X_iload_n 1 rfl (dk KX4_mayFollowUnit 43 rfl) ?_
          refine X_bipush (dk KX4_mayFollowUnit 44 rfl) 6 (by decide) ?_
          refine X_icmp_eq 93 (dk KX4_mayFollowUnit 45 rfl) (by decide) (fun hc => ?_) (fun hc => ?_)
          · have h := hO_t hc h
            refine X_iconst (dk KX4_mayFollowUnit 49 rfl) 1 (by decide) ?_
            refine X_goto 98 (dk KX4_mayFollowUnit 50 rfl) (by decide) ?_
            exact Y_zret (dk KX4_mayFollowUnit 52 rfl) rfl (by decide) h
          · have h := hO_f hc h
            refine X_iload_n 1 rfl (dk KX4_mayFollowUnit 46 rfl) ?_
            refine X_bipush (dk KX4_mayFollowUnit 47 rfl) 17 (by decide) ?_
            refine X_icmp_ne 97 (dk KX4_mayFollowUnit 48 rfl) (by decide) (fun hc => ?_) (fun hc => ?_)
            · have h := hO_f hc h
              refine X_iconst (dk KX4_mayFollowUnit 51 rfl) 0 (by decide) ?_
              exact Y_zret (dk KX4_mayFollowUnit 52 rfl) rfl (by decide) h
            · have h := hO_t hc h
              refine X_iconst (dk KX4_mayFollowUnit 49 rfl) 1 (by decide) ?_
              refine X_goto 98 (dk KX4_mayFollowUnit 50 rfl) (by decide) ?_
              exact Y_zret (dk KX4_mayFollowUnit 52 rfl) rfl (by decide) h
        · have h := hO_t hc h
          refine X_iload_n 1 rfl (dk KX4_mayFollowUnit 30 rfl) ?_
          refine X_bipush (dk KX4_mayFollowUnit 31 rfl) 8 (by decide) ?_
          refine X_icmp_eq 75 (dk KX4_mayFollowUnit 32 rfl) (by decide) (fun hc => ?_) (fun hc => ?_)
          · have h := hO_t hc h
            refine X_iconst (dk KX4_mayFollowUnit 39 rfl) 1 (by decide) ?_
            refine X_goto 80 (dk KX4_mayFollowUnit 40 rfl) (by decide) ?_
            exact Y_zret (dk KX4_mayFollowUnit 42 rfl) rfl (by decide) h
          · have h := hO_f hc h
            refine X_iload_n 1 rfl (dk KX4_mayFollowUnit 33 rfl) ?_
            refine X_bipush (dk KX4_mayFollowUnit 34 rfl) 7 (by decide) ?_
            refine X_icmp_eq 75 (dk KX4_mayFollowUnit 35 rfl) (by decide) (fun hc => ?_) (fun hc => ?_)
            · have h := hO_t hc h
              refine X_iconst (dk KX4_mayFollowUnit 39 rfl) 1 (by decide) ?_
              refine X_goto 80 (dk KX4_mayFollowUnit 40 rfl) (by decide) ?_
              exact Y_zret (dk KX4_mayFollowUnit 42 rfl) rfl (by decide) h
            · have h := hO_f hc h
              refine X_iload_n 1 rfl (dk KX4_mayFollowUnit 36 rfl) ?_
              refine X_bipush (dk KX4_mayFollowUnit 37 rfl) 17 (by decide) ?_
              refine X_icmp_ne 79 (dk KX4_mayFollowUnit 38 rfl) (by decide) (fun hc => ?_) (fun hc => ?_)
              · have h := hO_f hc h
                refine X_iconst (dk KX4_mayFollowUnit 41 rfl) 0 (by decide) ?_
                exact Y_zret (dk KX4_mayFollowUnit 42 rfl) rfl (by decide) h
              · have h := hO_t hc h
                refine X_iconst (dk KX4_mayFollowUnit 39 rfl) 1 (by decide) ?_
                refine X_goto 80 (dk KX4_mayFollowUnit 40 rfl) (by decide) ?_
                exact Y_zret (dk KX4_mayFollowUnit 42 rfl) rfl (by decide) h
      · have h := hO_t hc h
        refine X_iload_n 1 rfl (dk KX4_mayFollowUnit 21 rfl) ?_
        refine X_bipush (dk KX4_mayFollowUnit 22 rfl) 21 (by decide) ?_
        refine X_bipush (dk KX4_mayFollowUnit 23 rfl) 24 (by decide) ?_
        refine Y_callNI wX4_82 [.int a1, .int 21, .int 24] [] rfl rfl (Nat.le_of_ble_eq_true rfl) (Nat.le_of_ble_eq_true rfl) (dk KX4_mayFollowUnit 24 rfl) (fun Pc h => okX8_isWithin _ _ _ _ Pc h) h (fun y4 σ5 e6 h => ?_)
        try dsimp only at h
        exact Y_zret (dk KX4_mayFollowUnit 25 rfl) rfl (hO_gd h).1 (hO_gd h).2
    · have h := hO_f hc h
      refine X_iload_n 1 rfl (dk KX4_mayFollowUnit 10 rfl) ?_
      refine X_bipush (dk KX4_mayFollowUnit 11 rfl) 26 (by decide) ?_
      refine X_icmp_ne 30 (dk KX4_mayFollowUnit 12 rfl) (by decide) (fun hc => ?_) (fun hc => ?_)
      · have h := hO_f hc h
        refine X_iconst (dk KX4_mayFollowUnit 15 rfl) 0 (by decide) ?_
        exact Y_zret (dk KX4_mayFollowUnit 16 rfl) rfl (by decide) h
      · have h := hO_t hc h
        refine X_iconst (dk KX4_mayFollowUnit 13 rfl) 1 (by decide) ?_
        refine X_goto 31 (dk KX4_mayFollowUnit 14 rfl) (by decide) ?_
        exact Y_zret (dk KX4_mayFollowUnit 16 rfl) rfl (by decide) h
  · have h := hO_f hc h
    refine X_iconst (dk KX4_mayFollowUnit 5 rfl) 1 (by decide) ?_
    exact Y_zret (dk KX4_mayFollowUnit 6 rfl) rfl (by decide) h

def fX4_mayFollow (a1 : Int32) (σ : PS) : Option (Int32 × PS) := (if (gi σ 38 3) = 0 then (if a1 = 0 then some (1, σ) else (fX8_isWithin a1 3 5 σ).bind (fun qy1 => (fun (y1 : Int32) (σ2 : PS) => (if y1 = 0 then some (0, σ2) else some (1, σ2))) qy1.1 qy1.2)) else (if (gi σ 38 3) = 1 then (if a1 = 2 then some (1, σ) else some (0, σ)) else (if (gi σ 38 3) = 2 then (if a1 = 6 then some (1, σ) else some (0, σ)) else (if (gi σ 38 3) = 3 then (if a1 = 2 then some (1, σ) else (if a1 = 25 then some (1, σ) else (fX8_isWithin a1 9 16 σ).bind (fun qy4 => (fun (y4 : Int32) (σ5 : PS) => (if y4 = 0 then some (0, σ5) else some (1, σ5))) qy4.1 qy4.2))) else (fX4_mayFollowUnit a1 σ).bind (fun qy7 => (fun (y7 : Int32) (σ8 : PS) => gd (is01 y7) (some (y7, σ8))) qy7.1 qy7.2)))))
set_option maxRecDepth 100000 in
set_option maxHeartbeats 4000000 in
theorem okX4_mayFollow (a1 : Int32) (σ : PS) (P : Int32 × PS → Prop) (h : hO (fX4_mayFollow a1 σ) P) : CON g mX4_mayFollow 2 0 0 [.ref 38, .int a1] (HP σ) (pI P) := by
  refine CON.of (by decide) (by simp [lg_sl, Value.category]) ?_
  show X g _ _ _ _ _ 0 [(0, .ref 38), (1, .int a1)] [] _
  unfold fX4_mayFollow at h
  refine X_aload_n 0 rfl (dk KX4_mayFollow 0 rfl) ?_
  refine Y_getI fX4_19 (Nat.le_of_ble_eq_true rfl) rfl (dk KX4_mayFollow 1 rfl) ?_
  by_cases hs0 : (gi σ 38 3) = (0 : Int32)
  · have h := hO_t hs0 h
    refine Y_tab 0 hs0 36 (dk KX4_mayFollow 2 rfl) (by decide) (by decide) rfl (by decide) ?_
    refine X_iload_n 1 rfl (dk KX4_mayFollow 3 rfl) ?_
    refine X_if_eq 49 (dk KX4_mayFollow 4 rfl) (by decide) (fun hc => ?_) (fun hc => ?_)
    · have h := hO_t hc h
      refine X_iconst (dk KX4_mayFollow 10 rfl) 1 (by decide) ?_
      refine X_goto 54 (dk KX4_mayFollow 11 rfl) (by decide) ?_
      exact Y_zret (dk KX4_mayFollow 13 rfl) rfl (by decide) h
    · have h := hO_f hc h
      refine X_iload_n 1 rfl (dk KX4_mayFollow 5 rfl) ?_
      refine X_iconst (dk KX4_mayFollow 6 rfl) 3 (by decide) ?_
      refine X_iconst (dk KX4_mayFollow 7 rfl) 5 (by decide) ?_
      refine Y_callNI wX4_82 [.int a1, .int 3, .int 5] [] rfl rfl (Nat.le_of_ble_eq_true rfl) (Nat.le_of_ble_eq_true rfl) (dk KX4_mayFollow 8 rfl) (fun Pc h => okX8_isWithin _ _ _ _ Pc h) h (fun y1 σ2 e3 h => ?_)
      try dsimp only at h
      refine X_if_eq 53 (dk KX4_mayFollow 9 rfl) (by decide) (fun hc => ?_) (fun hc => ?_)
      · have h := hO_t hc h
        refine X_iconst (dk KX4_mayFollow 12 rfl) 0 (by decide) ?_
        exact Y_zret (dk KX4_mayFollow 13 rfl) rfl (by decide) h
      · have h := hO_f hc h
        refine X_iconst (dk KX4_mayFollow 10 rfl) 1 (by decide) ?_
        refine X_goto 54 (dk KX4_mayFollow 11 rfl) (by decide) ?_
        exact Y_zret (dk KX4_mayFollow 13 rfl) rfl (by decide) h
  have h := hO_f hs0 h
  by_cases hs1 : (gi σ 38 3) = (1 : Int32)
  · have h := hO_t hs1 h
    refine Y_tab 1 hs1 55 (dk KX4_mayFollow 2 rfl) (by decide) (by decide) rfl (by decide) ?_
    refine X_iload_n 1 rfl (dk KX4_mayFollow 14 rfl) ?_
    refine X_iconst (dk KX4_mayFollow 15 rfl) 2 (by decide) ?_
    refine X_icmp_ne 64 (dk KX4_mayFollow 16 rfl) (by decide) (fun hc => ?_) (fun hc => ?_)
    · have h := hO_f hc h
      refine X_iconst (dk KX4_mayFollow 19 rfl) 0 (by decide) ?_
      exact Y_zret (dk KX4_mayFollow 20 rfl) rfl (by decide) h
    · have h := hO_t hc h
      refine X_iconst (dk KX4_mayFollow 17 rfl) 1 (by decide) ?_
      refine X_goto 65 (dk KX4_mayFollow 18 rfl) (by decide) ?_
      exact Y_zret (dk KX4_mayFollow 20 rfl) rfl (by decide) h
  have h := hO_f hs1 h
  by_cases hs2 : (gi σ 38 3) = (2 : Int32)
  · have h := hO_t hs2 h
    refine Y_tab 2 hs2 66 (dk KX4_mayFollow 2 rfl) (by decide) (by decide) rfl (by decide) ?_
    refine X_iload_n 1 rfl (dk KX4_mayFollow 21 rfl) ?_
    refine X_bipush (dk KX4_mayFollow 22 rfl) 6 (by decide) ?_
    refine X_icmp_ne 76 (dk KX4_mayFollow 23 rfl) (by decide) (fun hc => ?_) (fun hc => ?_)
    · have h := hO_f hc h
      refine X_iconst (dk KX4_mayFollow 26 rfl) 0 (by decide) ?_
      exact Y_zret (dk KX4_mayFollow 27 rfl) rfl (by decide) h
    · have h := hO_t hc h
      refine X_iconst (dk KX4_mayFollow 24 rfl) 1 (by decide) ?_
      refine X_goto 77 (dk KX4_mayFollow 25 rfl) (by decide) ?_
      exact Y_zret (dk KX4_mayFollow 27 rfl) rfl (by decide) h
  have h := hO_f hs2 h
  by_cases hs3 : (gi σ 38 3) = (3 : Int32)
  · have h := hO_t hs3 h
    refine Y_tab 3 hs3 78 (dk KX4_mayFollow 2 rfl) (by decide) (by decide) rfl (by decide) ?_
    refine X_iload_n 1 rfl (dk KX4_mayFollow 28 rfl) ?_
    refine X_iconst (dk KX4_mayFollow 29 rfl) 2 (by decide) ?_
    refine X_icmp_eq 100 (dk KX4_mayFollow 30 rfl) (by decide) (fun hc => ?_) (fun hc => ?_)
    · have h := hO_t hc h
      refine X_iconst (dk KX4_mayFollow 39 rfl) 1 (by decide) ?_
      refine X_goto 105 (dk KX4_mayFollow 40 rfl) (by decide) ?_
      exact Y_zret (dk KX4_mayFollow 42 rfl) rfl (by decide) h
    · have h := hO_f hc h
      refine X_iload_n 1 rfl (dk KX4_mayFollow 31 rfl) ?_
      refine X_bipush (dk KX4_mayFollow 32 rfl) 25 (by decide) ?_
      refine X_icmp_eq 100 (dk KX4_mayFollow 33 rfl) (by decide) (fun hc => ?_) (fun hc => ?_)
      · have h := hO_t hc h
        refine X_iconst (dk KX4_mayFollow 39 rfl) 1 (by decide) ?_
        refine X_goto 105 (dk KX4_mayFollow 40 rfl) (by decide) ?_
        exact Y_zret (dk KX4_mayFollow 42 rfl) rfl (by decide) h
      · have h := hO_f hc h
        refine X_iload_n 1 rfl (dk KX4_mayFollow 34 rfl) ?_
        refine X_bipush (dk KX4_mayFollow 35 rfl) 9 (by decide) ?_
        refine X_bipush (dk KX4_mayFollow 36 rfl) 16 (by decide) ?_
        refine Y_callNI wX4_82 [.int a1, .int 9, .int 16] [] rfl rfl (Nat.le_of_ble_eq_true rfl) (Nat.le_of_ble_eq_true rfl) (dk KX4_mayFollow 37 rfl) (fun Pc h => okX8_isWithin _ _ _ _ Pc h) h (fun y4 σ5 e6 h => ?_)
        try dsimp only at h
        refine X_if_eq 104 (dk KX4_mayFollow 38 rfl) (by decide) (fun hc => ?_) (fun hc => ?_)
        · have h := hO_t hc h
          refine X_iconst (dk KX4_mayFollow 41 rfl) 0 (by decide) ?_
          exact Y_zret (dk KX4_mayFollow 42 rfl) rfl (by decide) h
        · have h := hO_f hc h
          refine X_iconst (dk KX4_mayFollow 39 rfl) 1 (by decide) ?_
          refine X_goto 105 (dk KX4_mayFollow 40 rfl) (by decide) ?_
          exact Y_zret (dk KX4_mayFollow 42 rfl) rfl (by decide) h
  have h := hO_f hs3 h
  refine X_tableOut 106 (dk KX4_mayFollow 2 rfl) (sw_out_0_3 hs0 hs1 hs2 hs3) (by decide) ?_
  refine X_aload_n 0 rfl (dk KX4_mayFollow 43 rfl) ?_
  refine X_iload_n 1 rfl (dk KX4_mayFollow 44 rfl) ?_
  refine Y_callVI wX4_86 (Nat.le_of_ble_eq_true rfl) rfl [.int a1] [] rfl rfl (Nat.le_of_ble_eq_true rfl) (Nat.le_of_ble_eq_true rfl) (dk KX4_mayFollow 45 rfl) (fun Pc h => okX4_mayFollowUnit _ _ Pc h) h (fun y7 σ8 e9 h => ?_)
  try dsimp only at h
  exact Y_zret (dk KX4_mayFollow 46 rfl) rfl (hO_gd h).1 (hO_gd h).2

def fX4_rank (a0 : Int32) (σ : PS) : Option (Int32 × PS) := (if a0 = 8 then some (2, σ) else (if a0 = 9 then some (1, σ) else (if a0 = 10 then some (1, σ) else (if a0 = 11 then some (1, σ) else (if a0 = 12 then some (1, σ) else (if a0 = 13 then some (1, σ) else (if a0 = 14 then some (1, σ) else (if a0 = 15 then some (1, σ) else (if a0 = 16 then some (1, σ) else (if a0 = 17 then some (1, σ) else (if a0 = 18 then some (4, σ) else (if a0 = 19 then some (4, σ) else (if a0 = 20 then some (5, σ) else (if a0 = 21 then some (3, σ) else (if a0 = 22 then some (3, σ) else (if a0 = 23 then some (3, σ) else (if a0 = 24 then some (3, σ) else (if a0 = 25 then some (0, σ) else some (1, σ)))))))))))))))))))
set_option maxRecDepth 100000 in
set_option maxHeartbeats 4000000 in
theorem okX4_rank (a0 : Int32) (σ : PS) (P : Int32 × PS → Prop) (h : hO (fX4_rank a0 σ) P) : CON g mX4_rank 0 0 0 [.int a0] (HP σ) (pI P) := by
  refine CON.of (by decide) (by simp [lg_sl, Value.category]) ?_
  show X g _ _ _ _ _ 0 [(0, .int a0)] [] _
  unfold fX4_rank at h
  refine X_iload_n 0 rfl (dk KX4_rank 0 rfl) ?_
  by_cases hs8 : a0 = (8 : Int32)
  · have h := hO_t hs8 h
    refine Y_tab 8 hs8 96 (dk KX4_rank 1 rfl) (by decide) (by decide) rfl (by decide) ?_
    refine X_iconst (dk KX4_rank 10 rfl) 2 (by decide) ?_
    exact Y_iret (dk KX4_rank 11 rfl) rfl h
  have h := hO_f hs8 h
  by_cases hs9 : a0 = (9 : Int32)
  · have h := hO_t hs9 h
    refine Y_tab 9 hs9 98 (dk KX4_rank 1 rfl) (by decide) (by decide) rfl (by decide) ?_
    refine X_iconst (dk KX4_rank 12 rfl) 1 (by decide) ?_
    exact Y_iret (dk KX4_rank 13 rfl) rfl h
  have h := hO_f hs9 h
  by_cases hs10 : a0 = (10 : Int32)
  · have h := hO_t hs10 h
    refine Y_tab 10 hs10 98 (dk KX4_rank 1 rfl) (by decide) (by decide) rfl (by decide) ?_
    refine X_iconst (dk KX4_rank 12 rfl) 1 (by decide) ?_
    exact Y_iret (dk KX4_rank 13 rfl) rfl h
  have h := hO_f hs10 h
  by_cases hs11 : a0 = (11 : Int32)
  · have h := hO_t hs11 h
    refine Y_tab 11 hs11 98 (dk KX4_rank 1 rfl) (by decide) (by decide) rfl (by decide) ?_
    refine X_iconst (dk KX4_rank 12 rfl) 1 (by decide) ?_
    exact Y_iret (dk KX4_rank 13 rfl) rfl h
  have h := hO_f hs11 h
  by_cases hs12 : a0 = (12 : Int32)
  · have h := hO_t hs12 h
    refine Y_tab 12 hs12 98 (dk KX4_rank 1 rfl) (by decide) (by decide) rfl (by decide) ?_
    refine X_iconst (dk KX4_rank 12 rfl) 1 (by decide) ?_
    exact Y_iret (dk KX4_rank 13 rfl) rfl h
  have h := hO_f hs12 h
  by_cases hs13 : a0 = (13 : Int32)
  · have h := hO_t hs13 h
    refine Y_tab 13 hs13 98 (dk KX4_rank 1 rfl) (by decide) (by decide) rfl (by decide) ?_
    refine X_iconst (dk KX4_rank 12 rfl) 1 (by decide) ?_
    exact Y_iret (dk KX4_rank 13 rfl) rfl h
  have h := hO_f hs13 h
  by_cases hs14 : a0 = (14 : Int32)
  · have h := hO_t hs14 h
    refine Y_tab 14 hs14 98 (dk KX4_rank 1 rfl) (by decide) (by decide) rfl (by decide) ?_
    refine X_iconst (dk KX4_rank 12 rfl) 1 (by decide) ?_
    exact Y_iret (dk KX4_rank 13 rfl) rfl h
  have h := hO_f hs14 h
  by_cases hs15 : a0 = (15 : Int32)
  · have h := hO_t hs15 h
    refine Y_tab 15 hs15 98 (dk KX4_rank 1 rfl) (by decide) (by decide) rfl (by decide) ?_
    refine X_iconst (dk KX4_rank 12 rfl) 1 (by decide) ?_
    exact Y_iret (dk KX4_rank 13 rfl) rfl h
  have h := hO_f hs15 h
  by_cases hs16 : a0 = (16 : Int32)
  · have h := hO_t hs16 h
    refine Y_tab 16 hs16 98 (dk KX4_rank 1 rfl) (by decide) (by decide) rfl (by decide) ?_
    refine X_iconst (dk KX4_rank 12 rfl) 1 (by decide) ?_
    exact Y_iret (dk KX4_rank 13 rfl) rfl h
  have h := hO_f hs16 h
  by_cases hs17 : a0 = (17 : Int32)
  · have h := hO_t hs17 h
    refine Y_tab 17 hs17 98 (dk KX4_rank 1 rfl) (by decide) (by decide) rfl (by decide) ?_
    refine X_iconst (dk KX4_rank 12 rfl) 1 (by decide) ?_
    exact Y_iret (dk KX4_rank 13 rfl) rfl h
  have h := hO_f hs17 h
  by_cases hs18 : a0 = (18 : Int32)
  · have h := hO_t hs18 h
    refine Y_tab 18 hs18 92 (dk KX4_rank 1 rfl) (by decide) (by decide) rfl (by decide) ?_
    refine X_iconst (dk KX4_rank 6 rfl) 4 (by decide) ?_
    exact Y_iret (dk KX4_rank 7 rfl) rfl h
  have h := hO_f hs18 h
  by_cases hs19 : a0 = (19 : Int32)
  · have h := hO_t hs19 h
    refine Y_tab 19 hs19 92 (dk KX4_rank 1 rfl) (by decide) (by decide) rfl (by decide) ?_
    refine X_iconst (dk KX4_rank 6 rfl) 4 (by decide) ?_
    exact Y_iret (dk KX4_rank 7 rfl) rfl h
  have h := hO_f hs19 h
  by_cases hs20 : a0 = (20 : Int32)
  · have h := hO_t hs20 h
    refine Y_tab 20 hs20 90 (dk KX4_rank 1 rfl) (by decide) (by decide) rfl (by decide) ?_
    refine X_iconst (dk KX4_rank 4 rfl) 5 (by decide) ?_
    exact Y_iret (dk KX4_rank 5 rfl) rfl h
  have h := hO_f hs20 h
  by_cases hs21 : a0 = (21 : Int32)
  · have h := hO_t hs21 h
    refine Y_tab 21 hs21 94 (dk KX4_rank 1 rfl) (by decide) (by decide) rfl (by decide) ?_
    refine X_iconst (dk KX4_rank 8 rfl) 3 (by decide) ?_
    exact Y_iret (dk KX4_rank 9 rfl) rfl h
  have h := hO_f hs21 h
  by_cases hs22 : a0 = (22 : Int32)
  · have h := hO_t hs22 h
    refine Y_tab 22 hs22 94 (dk KX4_rank 1 rfl) (by decide) (by decide) rfl (by decide) ?_
    refine X_iconst (dk KX4_rank 8 rfl) 3 (by decide) ?_
    exact Y_iret (dk KX4_rank 9 rfl) rfl h
  have h := hO_f hs22 h
  by_cases hs23 : a0 = (23 : Int32)
  · have h := hO_t hs23 h
    refine Y_tab 23 hs23 94 (dk KX4_rank 1 rfl) (by decide) (by decide) rfl (by decide) ?_
    refine X_iconst (dk KX4_rank 8 rfl) 3 (by decide) ?_
    exact Y_iret (dk KX4_rank 9 rfl) rfl h
  have h := hO_f hs23 h
  by_cases hs24 : a0 = (24 : Int32)
  · have h := hO_t hs24 h
    refine Y_tab 24 hs24 94 (dk KX4_rank 1 rfl) (by decide) (by decide) rfl (by decide) ?_
    refine X_iconst (dk KX4_rank 8 rfl) 3 (by decide) ?_
    exact Y_iret (dk KX4_rank 9 rfl) rfl h
  have h := hO_f hs24 h
  by_cases hs25 : a0 = (25 : Int32)
  · have h := hO_t hs25 h
    refine Y_tab 25 hs25 88 (dk KX4_rank 1 rfl) (by decide) (by decide) rfl (by decide) ?_
    refine X_iconst (dk KX4_rank 2 rfl) 0 (by decide) ?_
    exact Y_iret (dk KX4_rank 3 rfl) rfl h
  have h := hO_f hs25 h
  refine X_tableOut 98 (dk KX4_rank 1 rfl) (sw_out_8_25 hs8 hs9 hs10 hs11 hs12 hs13 hs14 hs15 hs16 hs17 hs18 hs19 hs20 hs21 hs22 hs23 hs24 hs25) (by decide) ?_
  refine X_iconst (dk KX4_rank 12 rfl) 1 (by decide) ?_
  exact Y_iret (dk KX4_rank 13 rfl) rfl h

def fX4_release_0 (b : Nat) : Nat → Int32 → PS → Option (PS)
  | 0, _, _ => none
  | n + 1, x2, σ => (if (gi σ 38 2) ≤ 0 then some σ else (if 32 < (gi σ 38 2) then some σ else gd (inb ((gi σ 38 2) - 1) 32) ((fX4_rank (gi σ 39 (((gi σ 38 2) - 1) : Int32).toNatClampNeg) σ).bind (fun qy2 => (fun (y2 : Int32) (σ3 : PS) => (if y2 < x2 then some σ3 else gd (inb (gi (sI σ3 38 2 ((gi σ3 38 2) - 1)) 38 2) 32) ((fX5_write b (-(gi (sI σ3 38 2 ((gi σ3 38 2) - 1)) 39 ((gi (sI σ3 38 2 ((gi σ3 38 2) - 1)) 38 2) : Int32).toNatClampNeg)) (sI σ3 38 2 ((gi σ3 38 2) - 1))).bind (fun σ7 => fX4_release_0 b n x2 σ7)))) qy2.1 qy2.2))))
set_option maxRecDepth 100000 in
set_option maxHeartbeats 4000000 in
theorem tX4_release_0 {b : Nat} (hb : isBk b = true) {P : PS → Prop} : ∀ (n : Nat) (x2 : Int32) (σ : PS), hO (fX4_release_0 b n x2 σ) P → X g mX4_release 1 0 0 (pV P) 0 [(0, .ref 38), (1, .ref b), (2, .int x2)] [] (HP σ) := by
  intro n
  induction n with
  | zero =>
    intro x2 σ h
    rw [fX4_release_0] at h
    exact (hO_none h).elim
  | succ n ih =>
    intro x2 σ h
    rw [fX4_release_0] at h
    refine X_aload_n 0 rfl (dk KX4_release 0 rfl) ?_
    refine Y_getI fX4_15 (Nat.le_of_ble_eq_true rfl) rfl (dk KX4_release 1 rfl) ?_
    refine X_if_le 61 (dk KX4_release 2 rfl) (by decide) (fun hc => ?_) (fun hc => ?_)
    · have h := hO_t hc h
      exact Y_vret (dk KX4_release 32 rfl) rfl h
    · have h := hO_f hc h
      refine X_aload_n 0 rfl (dk KX4_release 3 rfl) ?_
      refine Y_getI fX4_15 (Nat.le_of_ble_eq_true rfl) rfl (dk KX4_release 4 rfl) ?_
      refine X_bipush (dk KX4_release 5 rfl) 32 (by decide) ?_
      refine X_icmp_gt 61 (dk KX4_release 6 rfl) (by decide) (fun hc => ?_) (fun hc => ?_)
      · have h := hO_t hc h
        exact Y_vret (dk KX4_release 32 rfl) rfl h
      · have h := hO_f hc h
        refine X_aload_n 0 rfl (dk KX4_release 7 rfl) ?_
        refine Y_getR 39 fX4_9 (Nat.le_of_ble_eq_true rfl) rfl rfl (dk KX4_release 8 rfl) ?_
        refine X_aload_n 0 rfl (dk KX4_release 9 rfl) ?_
        refine Y_getI fX4_15 (Nat.le_of_ble_eq_true rfl) rfl (dk KX4_release 10 rfl) ?_
        refine X_iconst (dk KX4_release 11 rfl) 1 (by decide) ?_
        refine X_isub (dk KX4_release 12 rfl) ?_
        refine Y_iald (Nat.le_of_ble_eq_true rfl) rfl (dk KX4_release 13 rfl) h (fun hi1 h => ?_)
        refine Y_callSI wX4_130 [.int (gi σ 39 (((gi σ 38 2) - 1) : Int32).toNatClampNeg)] [] rfl rfl (Nat.le_of_ble_eq_true rfl) (Nat.le_of_ble_eq_true rfl) (dk KX4_release 14 rfl) (fun Pc h => okX4_rank _ _ Pc h) h (fun y2 σ3 e4 h => ?_)
        try dsimp only at h
        refine X_iload_n 2 rfl (dk KX4_release 15 rfl) ?_
        refine X_icmp_lt 61 (dk KX4_release 16 rfl) (by decide) (fun hc => ?_) (fun hc => ?_)
        · have h := hO_t hc h
          exact Y_vret (dk KX4_release 32 rfl) rfl h
        · have h := hO_f hc h
          refine X_aload_n 0 rfl (dk KX4_release 17 rfl) ?_
          refine X_dup (dk KX4_release 18 rfl) rfl ?_
          refine Y_getI fX4_15 (Nat.le_of_ble_eq_true rfl) rfl (dk KX4_release 19 rfl) ?_
          refine X_iconst (dk KX4_release 20 rfl) 1 (by decide) ?_
          refine X_isub (dk KX4_release 21 rfl) ?_
          refine Y_putI fX4_15 rfl (Nat.le_of_ble_eq_true rfl) rfl (dk KX4_release 22 rfl) ?_
          refine X_aload_n 1 rfl (dk KX4_release 23 rfl) ?_
          refine X_aload_n 0 rfl (dk KX4_release 24 rfl) ?_
          refine Y_getR 39 fX4_9 (Nat.le_of_ble_eq_true rfl) rfl rfl (dk KX4_release 25 rfl) ?_
          refine X_aload_n 0 rfl (dk KX4_release 26 rfl) ?_
          refine Y_getI fX4_15 (Nat.le_of_ble_eq_true rfl) rfl (dk KX4_release 27 rfl) ?_
          refine Y_iald (Nat.le_of_ble_eq_true rfl) rfl (dk KX4_release 28 rfl) h (fun hi5 h => ?_)
          refine X_ineg (dk KX4_release 29 rfl) ?_
          refine Y_callVV wX4_127 (bk_lt hb) (bk_ob hb) [.int (-(gi (sI σ3 38 2 ((gi σ3 38 2) - 1)) 39 ((gi (sI σ3 38 2 ((gi σ3 38 2) - 1)) 38 2) : Int32).toNatClampNeg))] [] rfl rfl (Nat.le_of_ble_eq_true rfl) (Nat.le_of_ble_eq_true rfl) (dk KX4_release 30 rfl) (fun Pc h => okX5_write hb _ _ Pc h) h (fun σ7 e8 h => ?_)
          try dsimp only at h
          refine X_goto 0 (dk KX4_release 31 rfl) (by decide) ?_
          exact ih x2 σ7 h
def fX4_release (b : Nat) (a2 : Int32) (σ : PS) : Option (PS) := fX4_release_0 b FU a2 σ
set_option maxRecDepth 100000 in
set_option maxHeartbeats 4000000 in
theorem okX4_release {b : Nat} (hb : isBk b = true) (a2 : Int32) (σ : PS) (P : PS → Prop) (h : hO (fX4_release b a2 σ) P) : CON g mX4_release 1 0 0 [.ref 38, .ref b, .int a2] (HP σ) (pV P) := by
  refine CON.of (by decide) (by simp [lg_sl, Value.category]) ?_
  show X g _ _ _ _ _ 0 [(0, .ref 38), (1, .ref b), (2, .int a2)] [] _
  unfold fX4_release at h
  exact tX4_release_0 hb FU a2 σ h

def fX4_takeIf (b : Nat)  (σ : PS) : Option (PS) := (fX5_beginCondition b σ).bind (fun σ2 => some (sI (sI σ2 38 4 1) 38 3 3))
set_option maxRecDepth 100000 in
set_option maxHeartbeats 4000000 in
theorem okX4_takeIf {b : Nat} (hb : isBk b = true)  (σ : PS) (P : PS → Prop) (h : hO (fX4_takeIf b  σ) P) : CON g mX4_takeIf 1 0 0 [.ref 38, .ref b] (HP σ) (pV P) := by
  refine CON.of (by decide) (by simp [lg_sl, Value.category]) ?_
  show X g _ _ _ _ _ 0 [(0, .ref 38), (1, .ref b)] [] _
  unfold fX4_takeIf at h
  refine X_aload_n 1 rfl (dk KX4_takeIf 0 rfl) ?_
  refine Y_callVV wX4_121 (bk_lt hb) (bk_ob hb) [] [] rfl rfl (Nat.le_of_ble_eq_true rfl) (Nat.le_of_ble_eq_true rfl) (dk KX4_takeIf 1 rfl) (fun Pc h => okX5_beginCondition hb _ Pc h) h (fun σ2 e3 h => ?_)
  try dsimp only at h
  refine X_aload_n 0 rfl (dk KX4_takeIf 2 rfl) ?_
  refine X_iconst (dk KX4_takeIf 3 rfl) 1 (by decide) ?_
  refine Y_putI fX4_22 rfl (Nat.le_of_ble_eq_true rfl) rfl (dk KX4_takeIf 4 rfl) ?_
  refine X_aload_n 0 rfl (dk KX4_takeIf 5 rfl) ?_
  refine X_iconst (dk KX4_takeIf 6 rfl) 3 (by decide) ?_
  refine Y_putI fX4_19 rfl (Nat.le_of_ble_eq_true rfl) rfl (dk KX4_takeIf 7 rfl) ?_
  exact Y_vret (dk KX4_takeIf 8 rfl) rfl h

def fX4_hold (a1 : Int32) (σ : PS) : Option (PS) := (if 32 ≤ (gi σ 38 2) then some σ else gd (inb (gi σ 38 2) 32) (some (sI (sI σ 39 ((gi σ 38 2) : Int32).toNatClampNeg a1) 38 2 ((gi (sI σ 39 ((gi σ 38 2) : Int32).toNatClampNeg a1) 38 2) + 1))))
set_option maxRecDepth 100000 in
set_option maxHeartbeats 4000000 in
theorem okX4_hold (a1 : Int32) (σ : PS) (P : PS → Prop) (h : hO (fX4_hold a1 σ) P) : CON g mX4_hold 0 0 0 [.ref 38, .int a1] (HP σ) (pV P) := by
  refine CON.of (by decide) (by simp [lg_sl, Value.category]) ?_
  show X g _ _ _ _ _ 0 [(0, .ref 38), (1, .int a1)] [] _
  unfold fX4_hold at h
  refine X_aload_n 0 rfl (dk KX4_hold 0 rfl) ?_
  refine Y_getI fX4_15 (Nat.le_of_ble_eq_true rfl) rfl (dk KX4_hold 1 rfl) ?_
  refine X_bipush (dk KX4_hold 2 rfl) 32 (by decide) ?_
  refine X_icmp_ge 29 (dk KX4_hold 3 rfl) (by decide) (fun hc => ?_) (fun hc => ?_)
  · have h := hO_t hc h
    exact Y_vret (dk KX4_hold 16 rfl) rfl h
  · have h := hO_f hc h
    refine X_aload_n 0 rfl (dk KX4_hold 4 rfl) ?_
    refine Y_getR 39 fX4_9 (Nat.le_of_ble_eq_true rfl) rfl rfl (dk KX4_hold 5 rfl) ?_
    refine X_aload_n 0 rfl (dk KX4_hold 6 rfl) ?_
    refine Y_getI fX4_15 (Nat.le_of_ble_eq_true rfl) rfl (dk KX4_hold 7 rfl) ?_
    refine X_iload_n 1 rfl (dk KX4_hold 8 rfl) ?_
    refine Y_iast (Nat.le_of_ble_eq_true rfl) rfl (dk KX4_hold 9 rfl) h (fun hi1 h => ?_)
    refine X_aload_n 0 rfl (dk KX4_hold 10 rfl) ?_
    refine X_dup (dk KX4_hold 11 rfl) rfl ?_
    refine Y_getI fX4_15 (Nat.le_of_ble_eq_true rfl) rfl (dk KX4_hold 12 rfl) ?_
    refine X_iconst (dk KX4_hold 13 rfl) 1 (by decide) ?_
    refine X_iadd (dk KX4_hold 14 rfl) ?_
    refine Y_putI fX4_15 rfl (Nat.le_of_ble_eq_true rfl) rfl (dk KX4_hold 15 rfl) ?_
    exact Y_vret (dk KX4_hold 16 rfl) rfl h

def fX4_takeOperator (a1 : Int32) (σ : PS) : Option (PS) := (fX4_hold a1 σ).bind (fun σ2 => (if a1 = 8 then some (sI (sI σ2 38 3 3) 38 4 1) else (if a1 = 7 then some (sI (sI σ2 38 3 3) 38 4 1) else (fX8_isWithin a1 21 24 (sI σ2 38 3 3)).bind (fun qy4 => (fun (y4 : Int32) (σ5 : PS) => (if y4 = 0 then some σ5 else some (sI σ5 38 4 2))) qy4.1 qy4.2))))
set_option maxRecDepth 100000 in
set_option maxHeartbeats 4000000 in
theorem okX4_takeOperator (a1 : Int32) (σ : PS) (P : PS → Prop) (h : hO (fX4_takeOperator a1 σ) P) : CON g mX4_takeOperator 1 0 0 [.ref 38, .int a1] (HP σ) (pV P) := by
  refine CON.of (by decide) (by simp [lg_sl, Value.category]) ?_
  show X g _ _ _ _ _ 0 [(0, .ref 38), (1, .int a1)] [] _
  unfold fX4_takeOperator at h
  refine X_aload_n 0 rfl (dk KX4_takeOperator 0 rfl) ?_
  refine X_iload_n 1 rfl (dk KX4_takeOperator 1 rfl) ?_
  refine Y_callVV wX4_124 (Nat.le_of_ble_eq_true rfl) rfl [.int a1] [] rfl rfl (Nat.le_of_ble_eq_true rfl) (Nat.le_of_ble_eq_true rfl) (dk KX4_takeOperator 2 rfl) (fun Pc h => okX4_hold _ _ Pc h) h (fun σ2 e3 h => ?_)
  try dsimp only at h
  refine X_aload_n 0 rfl (dk KX4_takeOperator 3 rfl) ?_
  refine X_iconst (dk KX4_takeOperator 4 rfl) 3 (by decide) ?_
  refine Y_putI fX4_19 rfl (Nat.le_of_ble_eq_true rfl) rfl (dk KX4_takeOperator 5 rfl) ?_
  refine X_iload_n 1 rfl (dk KX4_takeOperator 6 rfl) ?_
  refine X_bipush (dk KX4_takeOperator 7 rfl) 8 (by decide) ?_
  refine X_icmp_eq 22 (dk KX4_takeOperator 8 rfl) (by decide) (fun hc => ?_) (fun hc => ?_)
  · have h := hO_t hc h
    refine X_aload_n 0 rfl (dk KX4_takeOperator 12 rfl) ?_
    refine X_iconst (dk KX4_takeOperator 13 rfl) 1 (by decide) ?_
    refine Y_putI fX4_22 rfl (Nat.le_of_ble_eq_true rfl) rfl (dk KX4_takeOperator 14 rfl) ?_
    refine X_goto 46 (dk KX4_takeOperator 15 rfl) (by decide) ?_
    exact Y_vret (dk KX4_takeOperator 24 rfl) rfl h
  · have h := hO_f hc h
    refine X_iload_n 1 rfl (dk KX4_takeOperator 9 rfl) ?_
    refine X_bipush (dk KX4_takeOperator 10 rfl) 7 (by decide) ?_
    refine X_icmp_ne 30 (dk KX4_takeOperator 11 rfl) (by decide) (fun hc => ?_) (fun hc => ?_)
    · have h := hO_f hc h
      refine X_iload_n 1 rfl (dk KX4_takeOperator 16 rfl) ?_
      refine X_bipush (dk KX4_takeOperator 17 rfl) 21 (by decide) ?_
      refine X_bipush (dk KX4_takeOperator 18 rfl) 24 (by decide) ?_
      refine Y_callNI wX4_82 [.int a1, .int 21, .int 24] [] rfl rfl (Nat.le_of_ble_eq_true rfl) (Nat.le_of_ble_eq_true rfl) (dk KX4_takeOperator 19 rfl) (fun Pc h => okX8_isWithin _ _ _ _ Pc h) h (fun y4 σ5 e6 h => ?_)
      try dsimp only at h
      refine X_if_eq 46 (dk KX4_takeOperator 20 rfl) (by decide) (fun hc => ?_) (fun hc => ?_)
      · have h := hO_t hc h
        exact Y_vret (dk KX4_takeOperator 24 rfl) rfl h
      · have h := hO_f hc h
        refine X_aload_n 0 rfl (dk KX4_takeOperator 21 rfl) ?_
        refine X_iconst (dk KX4_takeOperator 22 rfl) 2 (by decide) ?_
        refine Y_putI fX4_22 rfl (Nat.le_of_ble_eq_true rfl) rfl (dk KX4_takeOperator 23 rfl) ?_
        exact Y_vret (dk KX4_takeOperator 24 rfl) rfl h
    · have h := hO_t hc h
      refine X_aload_n 0 rfl (dk KX4_takeOperator 12 rfl) ?_
      refine X_iconst (dk KX4_takeOperator 13 rfl) 1 (by decide) ?_
      refine Y_putI fX4_22 rfl (Nat.le_of_ble_eq_true rfl) rfl (dk KX4_takeOperator 14 rfl) ?_
      refine X_goto 46 (dk KX4_takeOperator 15 rfl) (by decide) ?_
      exact Y_vret (dk KX4_takeOperator 24 rfl) rfl h

def fX4_takeBehindUnit (b : Nat)  (σ : PS) : Option (PS) := (fX4_rank (gi σ 40 3) σ).bind (fun qy1 => (fun (y1 : Int32) (σ2 : PS) => (fX4_release b y1 σ2).bind (fun σ5 => (if (gi σ5 40 3) = 6 then (fX4_takeIf b σ5).bind (fun σ8 => some σ8) else (if (gi σ5 40 3) = 17 then (fX5_endRule b σ5).bind (fun σ11 => some (sI σ11 38 3 0)) else (if (gi σ5 40 3) = 26 then some (sI (sI σ5 38 2 (imax 0 ((gi σ5 38 2) - 1))) 38 5 ((gi (sI σ5 38 2 (imax 0 ((gi σ5 38 2) - 1))) 38 5) - 1)) else (fX4_takeOperator (gi σ5 40 3) σ5).bind (fun σ14 => some σ14)))))) qy1.1 qy1.2)
set_option maxRecDepth 100000 in
set_option maxHeartbeats 4000000 in
theorem okX4_takeBehindUnit {b : Nat} (hb : isBk b = true)  (σ : PS) (P : PS → Prop) (h : hO (fX4_takeBehindUnit b  σ) P) : CON g mX4_takeBehindUnit 2 0 0 [.ref 38, .ref b] (HP σ) (pV P) := by
  refine CON.of (by decide) (by simp [lg_sl, Value.category]) ?_
  show X g _ _ _ _ _ 0 [(0, .ref 38), (1, .ref b)] [] _
  unfold fX4_takeBehindUnit at h
  refine X_aload_n 0 rfl (dk KX4_takeBehindUnit 0 rfl) ?_
  refine X_aload_n 1 rfl (dk KX4_takeBehindUnit 1 rfl) ?_
  refine X_aload_n 0 rfl (dk KX4_takeBehindUnit 2 rfl) ?_
  refine Y_getR 40 fX4_42 (Nat.le_of_ble_eq_true rfl) rfl rfl (dk KX4_takeBehindUnit 3 rfl) ?_
  refine Y_getI fX4_53 (Nat.le_of_ble_eq_true rfl) rfl (dk KX4_takeBehindUnit 4 rfl) ?_
  refine Y_callSI wX4_130 [.int (gi σ 40 3)] [.ref b, .ref 38] rfl rfl (Nat.le_of_ble_eq_true rfl) (Nat.le_of_ble_eq_true rfl) (dk KX4_takeBehindUnit 5 rfl) (fun Pc h => okX4_rank _ _ Pc h) h (fun y1 σ2 e3 h => ?_)
  try dsimp only at h
  refine Y_callVV wX4_134 (Nat.le_of_ble_eq_true rfl) rfl [.ref b, .int y1] [] rfl rfl (Nat.le_of_ble_eq_true rfl) (Nat.le_of_ble_eq_true rfl) (dk KX4_takeBehindUnit 6 rfl) (fun Pc h => okX4_release hb _ _ Pc h) h (fun σ5 e6 h => ?_)
  try dsimp only at h
  refine X_aload_n 0 rfl (dk KX4_takeBehindUnit 7 rfl) ?_
  refine Y_getR 40 fX4_42 (Nat.le_of_ble_eq_true rfl) rfl rfl (dk KX4_takeBehindUnit 8 rfl) ?_
  refine Y_getI fX4_53 (Nat.le_of_ble_eq_true rfl) rfl (dk KX4_takeBehindUnit 9 rfl) ?_
  by_cases hs6 : (gi σ5 40 3) = (6 : Int32)
  · have h := hO_t hs6 h
    refine Y_look 6 hs6 83 (dk KX4_takeBehindUnit 10 rfl) (by decide) rfl (by decide) ?_
    refine X_aload_n 0 rfl (dk KX4_takeBehindUnit 26 rfl) ?_
    refine X_aload_n 1 rfl (dk KX4_takeBehindUnit 27 rfl) ?_
    refine Y_callVV wX4_99 (Nat.le_of_ble_eq_true rfl) rfl [.ref b] [] rfl rfl (Nat.le_of_ble_eq_true rfl) (Nat.le_of_ble_eq_true rfl) (dk KX4_takeBehindUnit 28 rfl) (fun Pc h => okX4_takeIf hb _ Pc h) h (fun σ8 e9 h => ?_)
    try dsimp only at h
    refine X_goto 114 (dk KX4_takeBehindUnit 29 rfl) (by decide) ?_
    exact Y_vret (dk KX4_takeBehindUnit 41 rfl) rfl h
  have h := hO_f hs6 h
  by_cases hs17 : (gi σ5 40 3) = (17 : Int32)
  · have h := hO_t hs17 h
    refine Y_look 17 hs17 91 (dk KX4_takeBehindUnit 10 rfl) (by decide) rfl (by decide) ?_
    refine X_aload_n 1 rfl (dk KX4_takeBehindUnit 30 rfl) ?_
    refine Y_callVV wX4_144 (bk_lt hb) (bk_ob hb) [] [] rfl rfl (Nat.le_of_ble_eq_true rfl) (Nat.le_of_ble_eq_true rfl) (dk KX4_takeBehindUnit 31 rfl) (fun Pc h => okX5_endRule hb _ Pc h) h (fun σ11 e12 h => ?_)
    try dsimp only at h
    refine X_aload_n 0 rfl (dk KX4_takeBehindUnit 32 rfl) ?_
    refine X_iconst (dk KX4_takeBehindUnit 33 rfl) 0 (by decide) ?_
    refine Y_putI fX4_19 rfl (Nat.le_of_ble_eq_true rfl) rfl (dk KX4_takeBehindUnit 34 rfl) ?_
    refine X_goto 114 (dk KX4_takeBehindUnit 35 rfl) (by decide) ?_
    exact Y_vret (dk KX4_takeBehindUnit 41 rfl) rfl h
  have h := hO_f hs17 h
  by_cases hs26 : (gi σ5 40 3) = (26 : Int32)
  · have h := hO_t hs26 h
    refine Y_look 26 hs26 56 (dk KX4_takeBehindUnit 10 rfl) (by decide) rfl (by decide) ?_
    refine X_aload_n 0 rfl (dk KX4_takeBehindUnit 11 rfl) ?_
    refine X_iconst (dk KX4_takeBehindUnit 12 rfl) 0 (by decide) ?_
    refine X_aload_n 0 rfl (dk KX4_takeBehindUnit 13 rfl) ?_
    refine Y_getI fX4_15 (Nat.le_of_ble_eq_true rfl) rfl (dk KX4_takeBehindUnit 14 rfl) ?_
    refine X_iconst (dk KX4_takeBehindUnit 15 rfl) 1 (by decide) ?_
    refine X_isub (dk KX4_takeBehindUnit 16 rfl) ?_
    refine Y_max (Nat.le_of_ble_eq_true rfl) (Nat.le_of_ble_eq_true rfl) mlX4_138 (dk KX4_takeBehindUnit 17 rfl) ?_
    refine Y_putI fX4_15 rfl (Nat.le_of_ble_eq_true rfl) rfl (dk KX4_takeBehindUnit 18 rfl) ?_
    refine X_aload_n 0 rfl (dk KX4_takeBehindUnit 19 rfl) ?_
    refine X_dup (dk KX4_takeBehindUnit 20 rfl) rfl ?_
    refine Y_getI fX4_25 (Nat.le_of_ble_eq_true rfl) rfl (dk KX4_takeBehindUnit 21 rfl) ?_
    refine X_iconst (dk KX4_takeBehindUnit 22 rfl) 1 (by decide) ?_
    refine X_isub (dk KX4_takeBehindUnit 23 rfl) ?_
    refine Y_putI fX4_25 rfl (Nat.le_of_ble_eq_true rfl) rfl (dk KX4_takeBehindUnit 24 rfl) ?_
    refine X_goto 114 (dk KX4_takeBehindUnit 25 rfl) (by decide) ?_
    exact Y_vret (dk KX4_takeBehindUnit 41 rfl) rfl h
  have h := hO_f hs26 h
  refine X_lookup (off := 81) 103 (dk KX4_takeBehindUnit 10 rfl) (by decide) ((lv_osw hs6 rfl).trans ((lv_osw hs17 rfl).trans ((lv_osw hs26 rfl).trans (rfl)))) (by decide) ?_
  refine X_aload_n 0 rfl (dk KX4_takeBehindUnit 36 rfl) ?_
  refine X_aload_n 0 rfl (dk KX4_takeBehindUnit 37 rfl) ?_
  refine Y_getR 40 fX4_42 (Nat.le_of_ble_eq_true rfl) rfl rfl (dk KX4_takeBehindUnit 38 rfl) ?_
  refine Y_getI fX4_53 (Nat.le_of_ble_eq_true rfl) rfl (dk KX4_takeBehindUnit 39 rfl) ?_
  refine Y_callVV wX4_147 (Nat.le_of_ble_eq_true rfl) rfl [.int (gi σ5 40 3)] [] rfl rfl (Nat.le_of_ble_eq_true rfl) (Nat.le_of_ble_eq_true rfl) (dk KX4_takeBehindUnit 40 rfl) (fun Pc h => okX4_takeOperator _ _ Pc h) h (fun σ14 e15 h => ?_)
  try dsimp only at h
  exact Y_vret (dk KX4_takeBehindUnit 41 rfl) rfl h

def fX4_takeLord_32 (b : Nat)  (σ : PS) : Option (PS) := (fX5_setLord b (gi σ 40 4) σ).bind (fun σ5 => (fX5_isInBar b σ5).bind (fun qy7 => (fun (y7 : Int32) (σ8 : PS) => (if y7 = 0 then some (sI σ8 38 3 3) else some (sI σ8 38 3 2))) qy7.1 qy7.2))
set_option maxRecDepth 100000 in
set_option maxHeartbeats 4000000 in
theorem tX4_takeLord_32 {b : Nat} (hb : isBk b = true) {P : PS → Prop}  (σ : PS) (h : hO (fX4_takeLord_32 b  σ) P) : X g mX4_takeLord 2 0 0 (pV P) 32 [(0, .ref 38), (1, .ref b)] [] (HP σ) := by
  unfold fX4_takeLord_32 at h
  refine X_aload_n 1 rfl (dk KX4_takeLord 14 rfl) ?_
  refine X_aload_n 0 rfl (dk KX4_takeLord 15 rfl) ?_
  refine Y_getR 40 fX4_42 (Nat.le_of_ble_eq_true rfl) rfl rfl (dk KX4_takeLord 16 rfl) ?_
  refine Y_getI fX4_108 (Nat.le_of_ble_eq_true rfl) rfl (dk KX4_takeLord 17 rfl) ?_
  refine Y_callVV wX4_114 (bk_lt hb) (bk_ob hb) [.int (gi σ 40 4)] [] rfl rfl (Nat.le_of_ble_eq_true rfl) (Nat.le_of_ble_eq_true rfl) (dk KX4_takeLord 18 rfl) (fun Pc h => okX5_setLord hb _ _ Pc h) h (fun σ5 e6 h => ?_)
  try dsimp only at h
  refine X_aload_n 0 rfl (dk KX4_takeLord 19 rfl) ?_
  refine X_aload_n 1 rfl (dk KX4_takeLord 20 rfl) ?_
  refine Y_callVI wX4_117 (bk_lt hb) (bk_ob hb) [] [.ref 38] rfl rfl (Nat.le_of_ble_eq_true rfl) (Nat.le_of_ble_eq_true rfl) (dk KX4_takeLord 21 rfl) (fun Pc h => okX5_isInBar hb _ Pc h) h (fun y7 σ8 e9 h => ?_)
  try dsimp only at h
  refine X_if_eq 55 (dk KX4_takeLord 22 rfl) (by decide) (fun hc => ?_) (fun hc => ?_)
  · have h := hO_t hc h
    refine X_iconst (dk KX4_takeLord 25 rfl) 3 (by decide) ?_
    refine Y_putI fX4_19 rfl (Nat.le_of_ble_eq_true rfl) rfl (dk KX4_takeLord 26 rfl) ?_
    exact Y_vret (dk KX4_takeLord 27 rfl) rfl h
  · have h := hO_f hc h
    refine X_iconst (dk KX4_takeLord 23 rfl) 2 (by decide) ?_
    refine X_goto 56 (dk KX4_takeLord 24 rfl) (by decide) ?_
    refine Y_putI fX4_19 rfl (Nat.le_of_ble_eq_true rfl) rfl (dk KX4_takeLord 26 rfl) ?_
    exact Y_vret (dk KX4_takeLord 27 rfl) rfl h
def fX4_takeLord (b : Nat)  (σ : PS) : Option (PS) := (fX8_isLord (gi σ 40 4) σ).bind (fun qy1 => (fun (y1 : Int32) (σ2 : PS) => (if y1 = 0 then (if (gi σ2 38 8) = (-1) then fX4_takeLord_32 b (sI σ2 38 8 (gi σ2 40 2)) else fX4_takeLord_32 b σ2) else fX4_takeLord_32 b σ2)) qy1.1 qy1.2)
set_option maxRecDepth 100000 in
set_option maxHeartbeats 4000000 in
theorem okX4_takeLord {b : Nat} (hb : isBk b = true)  (σ : PS) (P : PS → Prop) (h : hO (fX4_takeLord b  σ) P) : CON g mX4_takeLord 2 0 0 [.ref 38, .ref b] (HP σ) (pV P) := by
  refine CON.of (by decide) (by simp [lg_sl, Value.category]) ?_
  show X g _ _ _ _ _ 0 [(0, .ref 38), (1, .ref b)] [] _
  unfold fX4_takeLord at h
  refine X_aload_n 0 rfl (dk KX4_takeLord 0 rfl) ?_
  refine Y_getR 40 fX4_42 (Nat.le_of_ble_eq_true rfl) rfl rfl (dk KX4_takeLord 1 rfl) ?_
  refine Y_getI fX4_108 (Nat.le_of_ble_eq_true rfl) rfl (dk KX4_takeLord 2 rfl) ?_
  refine Y_callNI wX4_111 [.int (gi σ 40 4)] [] rfl rfl (Nat.le_of_ble_eq_true rfl) (Nat.le_of_ble_eq_true rfl) (dk KX4_takeLord 3 rfl) (fun Pc h => okX8_isLord _ _ Pc h) h (fun y1 σ2 e3 h => ?_)
  try dsimp only at h
  refine X_if_ne 32 (dk KX4_takeLord 4 rfl) (by decide) (fun hc => ?_) (fun hc => ?_)
  · have h := hO_f hc h
    exact tX4_takeLord_32 hb σ2 h
  · have h := hO_t hc h
    refine X_aload_n 0 rfl (dk KX4_takeLord 5 rfl) ?_
    refine Y_getI fX4_34 (Nat.le_of_ble_eq_true rfl) rfl (dk KX4_takeLord 6 rfl) ?_
    refine X_iconst (dk KX4_takeLord 7 rfl) (-1) (by decide) ?_
    refine X_icmp_ne 32 (dk KX4_takeLord 8 rfl) (by decide) (fun hc => ?_) (fun hc => ?_)
    · have h := hO_f hc h
      exact tX4_takeLord_32 hb σ2 h
    · have h := hO_t hc h
      refine X_aload_n 0 rfl (dk KX4_takeLord 9 rfl) ?_
      refine X_aload_n 0 rfl (dk KX4_takeLord 10 rfl) ?_
      refine Y_getR 40 fX4_42 (Nat.le_of_ble_eq_true rfl) rfl rfl (dk KX4_takeLord 11 rfl) ?_
      refine Y_getI fX4_60 (Nat.le_of_ble_eq_true rfl) rfl (dk KX4_takeLord 12 rfl) ?_
      refine Y_putI fX4_34 rfl (Nat.le_of_ble_eq_true rfl) rfl (dk KX4_takeLord 13 rfl) ?_
      exact tX4_takeLord_32 hb (sI σ2 38 8 (gi σ2 40 2)) h

def fX4_takeUnit (b : Nat)  (σ : PS) : Option (PS) := (if (gi σ 40 3) = 25 then (fX4_hold 25 σ).bind (fun σ8 => some (sI σ8 38 5 ((gi σ8 38 5) + 1))) else (if (gi σ 40 3) = 2 then (fX5_write b (gi σ 40 4) σ).bind (fun σ5 => some (sI σ5 38 3 4)) else (fX5_write b (-(gi σ 40 3)) σ).bind (fun σ2 => some (sI σ2 38 3 4))))
set_option maxRecDepth 100000 in
set_option maxHeartbeats 4000000 in
theorem okX4_takeUnit {b : Nat} (hb : isBk b = true)  (σ : PS) (P : PS → Prop) (h : hO (fX4_takeUnit b  σ) P) : CON g mX4_takeUnit 1 0 0 [.ref 38, .ref b] (HP σ) (pV P) := by
  refine CON.of (by decide) (by simp [lg_sl, Value.category]) ?_
  show X g _ _ _ _ _ 0 [(0, .ref 38), (1, .ref b)] [] _
  unfold fX4_takeUnit at h
  refine X_aload_n 0 rfl (dk KX4_takeUnit 0 rfl) ?_
  refine Y_getR 40 fX4_42 (Nat.le_of_ble_eq_true rfl) rfl rfl (dk KX4_takeUnit 1 rfl) ?_
  refine Y_getI fX4_53 (Nat.le_of_ble_eq_true rfl) rfl (dk KX4_takeUnit 2 rfl) ?_
  refine X_bipush (dk KX4_takeUnit 3 rfl) 25 (by decide) ?_
  refine X_icmp_ne 31 (dk KX4_takeUnit 4 rfl) (by decide) (fun hc => ?_) (fun hc => ?_)
  · have h := hO_f hc h
    refine X_aload_n 1 rfl (dk KX4_takeUnit 15 rfl) ?_
    refine X_aload_n 0 rfl (dk KX4_takeUnit 16 rfl) ?_
    refine Y_getR 40 fX4_42 (Nat.le_of_ble_eq_true rfl) rfl rfl (dk KX4_takeUnit 17 rfl) ?_
    refine Y_getI fX4_53 (Nat.le_of_ble_eq_true rfl) rfl (dk KX4_takeUnit 18 rfl) ?_
    refine X_iconst (dk KX4_takeUnit 19 rfl) 2 (by decide) ?_
    refine X_icmp_ne 53 (dk KX4_takeUnit 20 rfl) (by decide) (fun hc => ?_) (fun hc => ?_)
    · have h := hO_f hc h
      refine X_aload_n 0 rfl (dk KX4_takeUnit 25 rfl) ?_
      refine Y_getR 40 fX4_42 (Nat.le_of_ble_eq_true rfl) rfl rfl (dk KX4_takeUnit 26 rfl) ?_
      refine Y_getI fX4_53 (Nat.le_of_ble_eq_true rfl) rfl (dk KX4_takeUnit 27 rfl) ?_
      refine X_ineg (dk KX4_takeUnit 28 rfl) ?_
      refine Y_callVV wX4_127 (bk_lt hb) (bk_ob hb) [.int (-(gi σ 40 3))] [] rfl rfl (Nat.le_of_ble_eq_true rfl) (Nat.le_of_ble_eq_true rfl) (dk KX4_takeUnit 29 rfl) (fun Pc h => okX5_write hb _ _ Pc h) h (fun σ2 e3 h => ?_)
      try dsimp only at h
      refine X_aload_n 0 rfl (dk KX4_takeUnit 30 rfl) ?_
      refine X_iconst (dk KX4_takeUnit 31 rfl) 4 (by decide) ?_
      refine Y_putI fX4_19 rfl (Nat.le_of_ble_eq_true rfl) rfl (dk KX4_takeUnit 32 rfl) ?_
      exact Y_vret (dk KX4_takeUnit 33 rfl) rfl h
    · have h := hO_t hc h
      refine X_aload_n 0 rfl (dk KX4_takeUnit 21 rfl) ?_
      refine Y_getR 40 fX4_42 (Nat.le_of_ble_eq_true rfl) rfl rfl (dk KX4_takeUnit 22 rfl) ?_
      refine Y_getI fX4_108 (Nat.le_of_ble_eq_true rfl) rfl (dk KX4_takeUnit 23 rfl) ?_
      refine X_goto 61 (dk KX4_takeUnit 24 rfl) (by decide) ?_
      refine Y_callVV wX4_127 (bk_lt hb) (bk_ob hb) [.int (gi σ 40 4)] [] rfl rfl (Nat.le_of_ble_eq_true rfl) (Nat.le_of_ble_eq_true rfl) (dk KX4_takeUnit 29 rfl) (fun Pc h => okX5_write hb _ _ Pc h) h (fun σ5 e6 h => ?_)
      try dsimp only at h
      refine X_aload_n 0 rfl (dk KX4_takeUnit 30 rfl) ?_
      refine X_iconst (dk KX4_takeUnit 31 rfl) 4 (by decide) ?_
      refine Y_putI fX4_19 rfl (Nat.le_of_ble_eq_true rfl) rfl (dk KX4_takeUnit 32 rfl) ?_
      exact Y_vret (dk KX4_takeUnit 33 rfl) rfl h
  · have h := hO_t hc h
    refine X_aload_n 0 rfl (dk KX4_takeUnit 5 rfl) ?_
    refine X_bipush (dk KX4_takeUnit 6 rfl) 25 (by decide) ?_
    refine Y_callVV wX4_124 (Nat.le_of_ble_eq_true rfl) rfl [.int 25] [] rfl rfl (Nat.le_of_ble_eq_true rfl) (Nat.le_of_ble_eq_true rfl) (dk KX4_takeUnit 7 rfl) (fun Pc h => okX4_hold _ _ Pc h) h (fun σ8 e9 h => ?_)
    try dsimp only at h
    refine X_aload_n 0 rfl (dk KX4_takeUnit 8 rfl) ?_
    refine X_dup (dk KX4_takeUnit 9 rfl) rfl ?_
    refine Y_getI fX4_25 (Nat.le_of_ble_eq_true rfl) rfl (dk KX4_takeUnit 10 rfl) ?_
    refine X_iconst (dk KX4_takeUnit 11 rfl) 1 (by decide) ?_
    refine X_iadd (dk KX4_takeUnit 12 rfl) ?_
    refine Y_putI fX4_25 rfl (Nat.le_of_ble_eq_true rfl) rfl (dk KX4_takeUnit 13 rfl) ?_
    refine X_goto 69 (dk KX4_takeUnit 14 rfl) (by decide) ?_
    exact Y_vret (dk KX4_takeUnit 33 rfl) rfl h

def fX4_take (b : Nat)  (σ : PS) : Option (PS) := (if (gi σ 38 3) = 0 then (fX5_beginRule b (gi σ 40 3) σ).bind (fun σ2 => (if (gi (sI σ2 38 4 0) 40 3) = 3 then some (sI (sI σ2 38 4 0) 38 3 3) else some (sI (sI σ2 38 4 0) 38 3 1))) else (if (gi σ 38 3) = 1 then (fX4_takeLord b σ).bind (fun σ5 => some σ5) else (if (gi σ 38 3) = 2 then (fX4_takeIf b σ).bind (fun σ8 => some σ8) else (if (gi σ 38 3) = 3 then (fX4_takeUnit b σ).bind (fun σ11 => some σ11) else (fX4_takeBehindUnit b σ).bind (fun σ14 => some σ14)))))
set_option maxRecDepth 100000 in
set_option maxHeartbeats 4000000 in
theorem okX4_take {b : Nat} (hb : isBk b = true)  (σ : PS) (P : PS → Prop) (h : hO (fX4_take b  σ) P) : CON g mX4_take 3 0 0 [.ref 38, .ref b] (HP σ) (pV P) := by
  refine CON.of (by decide) (by simp [lg_sl, Value.category]) ?_
  show X g _ _ _ _ _ 0 [(0, .ref 38), (1, .ref b)] [] _
  unfold fX4_take at h
  refine X_aload_n 0 rfl (dk KX4_take 0 rfl) ?_
  refine Y_getI fX4_19 (Nat.le_of_ble_eq_true rfl) rfl (dk KX4_take 1 rfl) ?_
  by_cases hs0 : (gi σ 38 3) = (0 : Int32)
  · have h := hO_t hs0 h
    refine Y_tab 0 hs0 36 (dk KX4_take 2 rfl) (by decide) (by decide) rfl (by decide) ?_
    refine X_aload_n 1 rfl (dk KX4_take 3 rfl) ?_
    refine X_aload_n 0 rfl (dk KX4_take 4 rfl) ?_
    refine Y_getR 40 fX4_42 (Nat.le_of_ble_eq_true rfl) rfl rfl (dk KX4_take 5 rfl) ?_
    refine Y_getI fX4_53 (Nat.le_of_ble_eq_true rfl) rfl (dk KX4_take 6 rfl) ?_
    refine Y_callVV wX4_92 (bk_lt hb) (bk_ob hb) [.int (gi σ 40 3)] [] rfl rfl (Nat.le_of_ble_eq_true rfl) (Nat.le_of_ble_eq_true rfl) (dk KX4_take 7 rfl) (fun Pc h => okX5_beginRule hb _ _ Pc h) h (fun σ2 e3 h => ?_)
    try dsimp only at h
    refine X_aload_n 0 rfl (dk KX4_take 8 rfl) ?_
    refine X_iconst (dk KX4_take 9 rfl) 0 (by decide) ?_
    refine Y_putI fX4_22 rfl (Nat.le_of_ble_eq_true rfl) rfl (dk KX4_take 10 rfl) ?_
    refine X_aload_n 0 rfl (dk KX4_take 11 rfl) ?_
    refine X_aload_n 0 rfl (dk KX4_take 12 rfl) ?_
    refine Y_getR 40 fX4_42 (Nat.le_of_ble_eq_true rfl) rfl rfl (dk KX4_take 13 rfl) ?_
    refine Y_getI fX4_53 (Nat.le_of_ble_eq_true rfl) rfl (dk KX4_take 14 rfl) ?_
    refine X_iconst (dk KX4_take 15 rfl) 3 (by decide) ?_
    refine X_icmp_ne 68 (dk KX4_take 16 rfl) (by decide) (fun hc => ?_) (fun hc => ?_)
    · have h := hO_f hc h
      refine X_iconst (dk KX4_take 19 rfl) 1 (by decide) ?_
      refine Y_putI fX4_19 rfl (Nat.le_of_ble_eq_true rfl) rfl (dk KX4_take 20 rfl) ?_
      refine X_goto 104 (dk KX4_take 21 rfl) (by decide) ?_
      exact Y_vret (dk KX4_take 37 rfl) rfl h
    · have h := hO_t hc h
      refine X_iconst (dk KX4_take 17 rfl) 3 (by decide) ?_
      refine X_goto 69 (dk KX4_take 18 rfl) (by decide) ?_
      refine Y_putI fX4_19 rfl (Nat.le_of_ble_eq_true rfl) rfl (dk KX4_take 20 rfl) ?_
      refine X_goto 104 (dk KX4_take 21 rfl) (by decide) ?_
      exact Y_vret (dk KX4_take 37 rfl) rfl h
  have h := hO_f hs0 h
  by_cases hs1 : (gi σ 38 3) = (1 : Int32)
  · have h := hO_t hs1 h
    refine Y_tab 1 hs1 75 (dk KX4_take 2 rfl) (by decide) (by decide) rfl (by decide) ?_
    refine X_aload_n 0 rfl (dk KX4_take 22 rfl) ?_
    refine X_aload_n 1 rfl (dk KX4_take 23 rfl) ?_
    refine Y_callVV wX4_96 (Nat.le_of_ble_eq_true rfl) rfl [.ref b] [] rfl rfl (Nat.le_of_ble_eq_true rfl) (Nat.le_of_ble_eq_true rfl) (dk KX4_take 24 rfl) (fun Pc h => okX4_takeLord hb _ Pc h) h (fun σ5 e6 h => ?_)
    try dsimp only at h
    refine X_goto 104 (dk KX4_take 25 rfl) (by decide) ?_
    exact Y_vret (dk KX4_take 37 rfl) rfl h
  have h := hO_f hs1 h
  by_cases hs2 : (gi σ 38 3) = (2 : Int32)
  · have h := hO_t hs2 h
    refine Y_tab 2 hs2 83 (dk KX4_take 2 rfl) (by decide) (by decide) rfl (by decide) ?_
    refine X_aload_n 0 rfl (dk KX4_take 26 rfl) ?_
    refine X_aload_n 1 rfl (dk KX4_take 27 rfl) ?_
    refine Y_callVV wX4_99 (Nat.le_of_ble_eq_true rfl) rfl [.ref b] [] rfl rfl (Nat.le_of_ble_eq_true rfl) (Nat.le_of_ble_eq_true rfl) (dk KX4_take 28 rfl) (fun Pc h => okX4_takeIf hb _ Pc h) h (fun σ8 e9 h => ?_)
    try dsimp only at h
    refine X_goto 104 (dk KX4_take 29 rfl) (by decide) ?_
    exact Y_vret (dk KX4_take 37 rfl) rfl h
  have h := hO_f hs2 h
  by_cases hs3 : (gi σ 38 3) = (3 : Int32)
  · have h := hO_t hs3 h
    refine Y_tab 3 hs3 91 (dk KX4_take 2 rfl) (by decide) (by decide) rfl (by decide) ?_
    refine X_aload_n 0 rfl (dk KX4_take 30 rfl) ?_
    refine X_aload_n 1 rfl (dk KX4_take 31 rfl) ?_
    refine Y_callVV wX4_102 (Nat.le_of_ble_eq_true rfl) rfl [.ref b] [] rfl rfl (Nat.le_of_ble_eq_true rfl) (Nat.le_of_ble_eq_true rfl) (dk KX4_take 32 rfl) (fun Pc h => okX4_takeUnit hb _ Pc h) h (fun σ11 e12 h => ?_)
    try dsimp only at h
    refine X_goto 104 (dk KX4_take 33 rfl) (by decide) ?_
    exact Y_vret (dk KX4_take 37 rfl) rfl h
  have h := hO_f hs3 h
  refine X_tableOut 99 (dk KX4_take 2 rfl) (sw_out_0_3 hs0 hs1 hs2 hs3) (by decide) ?_
  refine X_aload_n 0 rfl (dk KX4_take 34 rfl) ?_
  refine X_aload_n 1 rfl (dk KX4_take 35 rfl) ?_
  refine Y_callVV wX4_105 (Nat.le_of_ble_eq_true rfl) rfl [.ref b] [] rfl rfl (Nat.le_of_ble_eq_true rfl) (Nat.le_of_ble_eq_true rfl) (dk KX4_take 36 rfl) (fun Pc h => okX4_takeBehindUnit hb _ Pc h) h (fun σ14 e15 h => ?_)
  try dsimp only at h
  exact Y_vret (dk KX4_take 37 rfl) rfl h

def fX4_parse_119 (b : Nat)  (σ : PS) : Option (Int32 × PS) := (if (gi σ 38 6) = 0 then (if (gi σ 38 8) = (-1) then some ((gi σ 38 6), σ) else (fX4_blame 5 (gi σ 38 8) σ).bind (fun σ23 => some ((gi σ23 38 6), σ23))) else some ((gi σ 38 6), σ))
set_option maxRecDepth 100000 in
set_option maxHeartbeats 4000000 in
theorem tX4_parse_119 {b : Nat} (hb : isBk b = true) {P : Int32 × PS → Prop}  (σ : PS) (h : hO (fX4_parse_119 b  σ) P) : X g mX4_parse 8 0 0 (pI P) 119 [(0, .ref 38)] [] (HP σ) := by
  unfold fX4_parse_119 at h
  refine X_aload_n 0 rfl (dk KX4_parse 57 rfl) ?_
  refine Y_getI fX4_28 (Nat.le_of_ble_eq_true rfl) rfl (dk KX4_parse 58 rfl) ?_
  refine X_if_ne 143 (dk KX4_parse 59 rfl) (by decide) (fun hc => ?_) (fun hc => ?_)
  · have h := hO_f hc h
    refine X_aload_n 0 rfl (dk KX4_parse 69 rfl) ?_
    refine Y_getI fX4_28 (Nat.le_of_ble_eq_true rfl) rfl (dk KX4_parse 70 rfl) ?_
    exact Y_iret (dk KX4_parse 71 rfl) rfl h
  · have h := hO_t hc h
    refine X_aload_n 0 rfl (dk KX4_parse 60 rfl) ?_
    refine Y_getI fX4_34 (Nat.le_of_ble_eq_true rfl) rfl (dk KX4_parse 61 rfl) ?_
    refine X_iconst (dk KX4_parse 62 rfl) (-1) (by decide) ?_
    refine X_icmp_eq 143 (dk KX4_parse 63 rfl) (by decide) (fun hc => ?_) (fun hc => ?_)
    · have h := hO_t hc h
      refine X_aload_n 0 rfl (dk KX4_parse 69 rfl) ?_
      refine Y_getI fX4_28 (Nat.le_of_ble_eq_true rfl) rfl (dk KX4_parse 70 rfl) ?_
      exact Y_iret (dk KX4_parse 71 rfl) rfl h
    · have h := hO_f hc h
      refine X_aload_n 0 rfl (dk KX4_parse 64 rfl) ?_
      refine X_iconst (dk KX4_parse 65 rfl) 5 (by decide) ?_
      refine X_aload_n 0 rfl (dk KX4_parse 66 rfl) ?_
      refine Y_getI fX4_34 (Nat.le_of_ble_eq_true rfl) rfl (dk KX4_parse 67 rfl) ?_
      refine Y_callVV wX4_63 (Nat.le_of_ble_eq_true rfl) rfl [.int 5, .int (gi σ 38 8)] [] rfl rfl (Nat.le_of_ble_eq_true rfl) (Nat.le_of_ble_eq_true rfl) (dk KX4_parse 68 rfl) (fun Pc h => okX4_blame _ _ _ Pc h) h (fun σ23 e24 h => ?_)
      try dsimp only at h
      refine X_aload_n 0 rfl (dk KX4_parse 69 rfl) ?_
      refine Y_getI fX4_28 (Nat.le_of_ble_eq_true rfl) rfl (dk KX4_parse 70 rfl) ?_
      exact Y_iret (dk KX4_parse 71 rfl) rfl h
def fX4_parse_113 (b : Nat) (r9 : Int32 → Int32 → PS → Option (Int32 × PS)) (x2 : Int32) (x3 : Int32) (σ : PS) : Option (Int32 × PS) := r9 x2 (x3 + 1) σ
set_option maxRecDepth 100000 in
set_option maxHeartbeats 4000000 in
theorem tX4_parse_113 {b : Nat} (hb : isBk b = true) {P : Int32 × PS → Prop} {r9 : Int32 → Int32 → PS → Option (Int32 × PS)} (hr_9 : ∀ (x2 : Int32) (x3 : Int32) (σ : PS), hO (r9 x2 x3 σ) P → X g mX4_parse 8 0 0 (pI P) 9 [(0, .ref 38), (1, .ref b), (2, .int x2), (3, .int x3)] [] (HP σ)) (x2 : Int32) (x3 : Int32) (σ : PS) (h : hO (fX4_parse_113 b r9 x2 x3 σ) P) : X g mX4_parse 8 0 0 (pI P) 113 [(0, .ref 38), (1, .ref b), (2, .int x2), (3, .int x3)] [] (HP σ) := by
  unfold fX4_parse_113 at h
  refine X_iinc 3 1 [(3, .int (x3 + 1)), (0, .ref 38), (1, .ref b), (2, .int x2)] (dk KX4_parse 55 rfl) rfl (by decide) (by decide) rfl ?_
  refine X_goto 9 (dk KX4_parse 56 rfl) (by decide) ?_
  refine X_sub [(0, .ref 38), (1, .ref b), (2, .int x2), (3, .int (x3 + 1))] [1, 2, 3, 0] rfl ?_
  exact hr_9 x2 (x3 + 1) σ h
def fX4_parse_93 (b : Nat) (r9 : Int32 → Int32 → PS → Option (Int32 × PS)) (x2 : Int32) (x3 : Int32) (σ : PS) : Option (Int32 × PS) := (fX4_blame 2 (gi σ 40 2) σ).bind (fun σ20 => fX4_parse_113 b r9 x2 x3 σ20)
set_option maxRecDepth 100000 in
set_option maxHeartbeats 4000000 in
theorem tX4_parse_93 {b : Nat} (hb : isBk b = true) {P : Int32 × PS → Prop} {r9 : Int32 → Int32 → PS → Option (Int32 × PS)} (hr_9 : ∀ (x2 : Int32) (x3 : Int32) (σ : PS), hO (r9 x2 x3 σ) P → X g mX4_parse 8 0 0 (pI P) 9 [(0, .ref 38), (1, .ref b), (2, .int x2), (3, .int x3)] [] (HP σ)) (x2 : Int32) (x3 : Int32) (σ : PS) (h : hO (fX4_parse_93 b r9 x2 x3 σ) P) : X g mX4_parse 8 0 0 (pI P) 93 [(0, .ref 38), (1, .ref b), (2, .int x2), (3, .int x3)] [] (HP σ) := by
  unfold fX4_parse_93 at h
  refine X_aload_n 0 rfl (dk KX4_parse 45 rfl) ?_
  refine X_iconst (dk KX4_parse 46 rfl) 2 (by decide) ?_
  refine X_aload_n 0 rfl (dk KX4_parse 47 rfl) ?_
  refine Y_getR 40 fX4_42 (Nat.le_of_ble_eq_true rfl) rfl rfl (dk KX4_parse 48 rfl) ?_
  refine Y_getI fX4_60 (Nat.le_of_ble_eq_true rfl) rfl (dk KX4_parse 49 rfl) ?_
  refine Y_callVV wX4_63 (Nat.le_of_ble_eq_true rfl) rfl [.int 2, .int (gi σ 40 2)] [] rfl rfl (Nat.le_of_ble_eq_true rfl) (Nat.le_of_ble_eq_true rfl) (dk KX4_parse 50 rfl) (fun Pc h => okX4_blame _ _ _ Pc h) h (fun σ20 e21 h => ?_)
  try dsimp only at h
  refine X_goto 113 (dk KX4_parse 51 rfl) (by decide) ?_
  exact tX4_parse_113 hb hr_9 x2 x3 σ20 h
def fX4_parse_9 (b : Nat) : Nat → Int32 → Int32 → PS → Option (Int32 × PS)
  | 0, _, _, _ => none
  | n + 1, x2, x3, σ => (if 400 < x3 then fX4_parse_119 b σ else (if x2 = 0 then (if (gi σ 38 6) = 0 then (fX6_advance σ).bind (fun σ5 => (fX4_mayFollow (gi σ5 40 3) σ5).bind (fun qy7 => (fun (y7 : Int32) (σ8 : PS) => (if y7 = 0 then (fX4_blame 1 (gi σ8 40 2) σ8).bind (fun σ17 => fX4_parse_113 b (fX4_parse_9 b n) x2 x3 σ17) else (if (gi σ8 40 3) = 0 then fX4_parse_113 b (fX4_parse_9 b n) 1 x3 σ8 else (if x3 = 400 then fX4_parse_93 b (fX4_parse_9 b n) x2 x3 σ8 else (fX4_isTooMuch b σ8).bind (fun qy10 => (fun (y10 : Int32) (σ11 : PS) => (if y10 = 0 then (fX4_take b σ11).bind (fun σ14 => fX4_parse_113 b (fX4_parse_9 b n) x2 x3 σ14) else fX4_parse_93 b (fX4_parse_9 b n) x2 x3 σ11)) qy10.1 qy10.2))))) qy7.1 qy7.2)) else fX4_parse_119 b σ) else fX4_parse_119 b σ))
set_option maxRecDepth 100000 in
set_option maxHeartbeats 4000000 in
theorem tX4_parse_9 {b : Nat} (hb : isBk b = true) {P : Int32 × PS → Prop} : ∀ (n : Nat) (x2 : Int32) (x3 : Int32) (σ : PS), hO (fX4_parse_9 b n x2 x3 σ) P → X g mX4_parse 8 0 0 (pI P) 9 [(0, .ref 38), (1, .ref b), (2, .int x2), (3, .int x3)] [] (HP σ) := by
  intro n
  induction n with
  | zero =>
    intro x2 x3 σ h
    rw [fX4_parse_9] at h
    exact (hO_none h).elim
  | succ n ih =>
    intro x2 x3 σ h
    rw [fX4_parse_9] at h
    refine X_iload_n 3 rfl (dk KX4_parse 7 rfl) ?_
    refine X_sipush (dk KX4_parse 8 rfl) 400 (by decide) ?_
    refine X_icmp_gt 119 (dk KX4_parse 9 rfl) (by decide) (fun hc => ?_) (fun hc => ?_)
    · have h := hO_t hc h
      refine X_sub [(0, .ref 38)] [0] rfl ?_
      exact tX4_parse_119 hb σ h
    · have h := hO_f hc h
      refine X_iload_n 2 rfl (dk KX4_parse 10 rfl) ?_
      refine X_if_ne 119 (dk KX4_parse 11 rfl) (by decide) (fun hc => ?_) (fun hc => ?_)
      · have h := hO_f hc h
        refine X_sub [(0, .ref 38)] [0] rfl ?_
        exact tX4_parse_119 hb σ h
      · have h := hO_t hc h
        refine X_aload_n 0 rfl (dk KX4_parse 12 rfl) ?_
        refine Y_getI fX4_28 (Nat.le_of_ble_eq_true rfl) rfl (dk KX4_parse 13 rfl) ?_
        refine X_if_ne 119 (dk KX4_parse 14 rfl) (by decide) (fun hc => ?_) (fun hc => ?_)
        · have h := hO_f hc h
          refine X_sub [(0, .ref 38)] [0] rfl ?_
          exact tX4_parse_119 hb σ h
        · have h := hO_t hc h
          refine X_aload_n 0 rfl (dk KX4_parse 15 rfl) ?_
          refine Y_getR 40 fX4_42 (Nat.le_of_ble_eq_true rfl) rfl rfl (dk KX4_parse 16 rfl) ?_
          refine Y_callVV wX4_50 (Nat.le_of_ble_eq_true rfl) rfl [] [] rfl rfl (Nat.le_of_ble_eq_true rfl) (Nat.le_of_ble_eq_true rfl) (dk KX4_parse 17 rfl) (fun Pc h => okX6_advance _ Pc h) h (fun σ5 e6 h => ?_)
          try dsimp only at h
          refine X_aload_n 0 rfl (dk KX4_parse 18 rfl) ?_
          refine X_aload_n 0 rfl (dk KX4_parse 19 rfl) ?_
          refine Y_getR 40 fX4_42 (Nat.le_of_ble_eq_true rfl) rfl rfl (dk KX4_parse 20 rfl) ?_
          refine Y_getI fX4_53 (Nat.le_of_ble_eq_true rfl) rfl (dk KX4_parse 21 rfl) ?_
          refine Y_callVI wX4_56 (Nat.le_of_ble_eq_true rfl) rfl [.int (gi σ5 40 3)] [] rfl rfl (Nat.le_of_ble_eq_true rfl) (Nat.le_of_ble_eq_true rfl) (dk KX4_parse 22 rfl) (fun Pc h => okX4_mayFollow _ _ Pc h) h (fun y7 σ8 e9 h => ?_)
          try dsimp only at h
          refine X_if_ne 63 (dk KX4_parse 23 rfl) (by decide) (fun hc => ?_) (fun hc => ?_)
          · have h := hO_f hc h
            refine X_aload_n 0 rfl (dk KX4_parse 31 rfl) ?_
            refine Y_getR 40 fX4_42 (Nat.le_of_ble_eq_true rfl) rfl rfl (dk KX4_parse 32 rfl) ?_
            refine Y_getI fX4_53 (Nat.le_of_ble_eq_true rfl) rfl (dk KX4_parse 33 rfl) ?_
            refine X_if_ne 78 (dk KX4_parse 34 rfl) (by decide) (fun hc => ?_) (fun hc => ?_)
            · have h := hO_f hc h
              refine X_iload_n 3 rfl (dk KX4_parse 38 rfl) ?_
              refine X_sipush (dk KX4_parse 39 rfl) 400 (by decide) ?_
              refine X_icmp_eq 93 (dk KX4_parse 40 rfl) (by decide) (fun hc => ?_) (fun hc => ?_)
              · have h := hO_t hc h
                exact tX4_parse_93 hb ih x2 x3 σ8 h
              · have h := hO_f hc h
                refine X_aload_n 0 rfl (dk KX4_parse 41 rfl) ?_
                refine X_aload_n 1 rfl (dk KX4_parse 42 rfl) ?_
                refine Y_callVI wX4_67 (Nat.le_of_ble_eq_true rfl) rfl [.ref b] [] rfl rfl (Nat.le_of_ble_eq_true rfl) (Nat.le_of_ble_eq_true rfl) (dk KX4_parse 43 rfl) (fun Pc h => okX4_isTooMuch hb _ Pc h) h (fun y10 σ11 e12 h => ?_)
                try dsimp only at h
                refine X_if_eq 108 (dk KX4_parse 44 rfl) (by decide) (fun hc => ?_) (fun hc => ?_)
                · have h := hO_t hc h
                  refine X_aload_n 0 rfl (dk KX4_parse 52 rfl) ?_
                  refine X_aload_n 1 rfl (dk KX4_parse 53 rfl) ?_
                  refine Y_callVV wX4_71 (Nat.le_of_ble_eq_true rfl) rfl [.ref b] [] rfl rfl (Nat.le_of_ble_eq_true rfl) (Nat.le_of_ble_eq_true rfl) (dk KX4_parse 54 rfl) (fun Pc h => okX4_take hb _ Pc h) h (fun σ14 e15 h => ?_)
                  try dsimp only at h
                  exact tX4_parse_113 hb ih x2 x3 σ14 h
                · have h := hO_f hc h
                  exact tX4_parse_93 hb ih x2 x3 σ11 h
            · have h := hO_t hc h
              refine X_iconst (dk KX4_parse 35 rfl) 1 (by decide) ?_
              refine X_istore_n [(2, .int 1), (0, .ref 38), (1, .ref b), (3, .int x3)] (dk KX4_parse 36 rfl) (by decide) rfl ?_
              refine X_goto 113 (dk KX4_parse 37 rfl) (by decide) ?_
              refine X_sub [(0, .ref 38), (1, .ref b), (2, .int 1), (3, .int x3)] [1, 2, 0, 3] rfl ?_
              exact tX4_parse_113 hb ih 1 x3 σ8 h
          · have h := hO_t hc h
            refine X_aload_n 0 rfl (dk KX4_parse 24 rfl) ?_
            refine X_iconst (dk KX4_parse 25 rfl) 1 (by decide) ?_
            refine X_aload_n 0 rfl (dk KX4_parse 26 rfl) ?_
            refine Y_getR 40 fX4_42 (Nat.le_of_ble_eq_true rfl) rfl rfl (dk KX4_parse 27 rfl) ?_
            refine Y_getI fX4_60 (Nat.le_of_ble_eq_true rfl) rfl (dk KX4_parse 28 rfl) ?_
            refine Y_callVV wX4_63 (Nat.le_of_ble_eq_true rfl) rfl [.int 1, .int (gi σ8 40 2)] [] rfl rfl (Nat.le_of_ble_eq_true rfl) (Nat.le_of_ble_eq_true rfl) (dk KX4_parse 29 rfl) (fun Pc h => okX4_blame _ _ _ Pc h) h (fun σ17 e18 h => ?_)
            try dsimp only at h
            refine X_goto 113 (dk KX4_parse 30 rfl) (by decide) ?_
            exact tX4_parse_113 hb ih x2 x3 σ17 h
def fX4_parse (b : Nat)  (σ : PS) : Option (Int32 × PS) := (fX4_begin b σ).bind (fun σ2 => fX4_parse_9 b FU 0 0 σ2)
set_option maxRecDepth 100000 in
set_option maxHeartbeats 4000000 in
theorem okX4_parse {b : Nat} (hb : isBk b = true)  (σ : PS) (P : Int32 × PS → Prop) (h : hO (fX4_parse b  σ) P) : CON g mX4_parse 8 0 0 [.ref 38, .ref b] (HP σ) (pI P) := by
  refine CON.of (by decide) (by simp [lg_sl, Value.category]) ?_
  show X g _ _ _ _ _ 0 [(0, .ref 38), (1, .ref b)] [] _
  unfold fX4_parse at h
  refine X_aload_n 0 rfl (dk KX4_parse 0 rfl) ?_
  refine X_aload_n 1 rfl (dk KX4_parse 1 rfl) ?_
  refine Y_callVV wX4_46 (Nat.le_of_ble_eq_true rfl) rfl [.ref b] [] rfl rfl (Nat.le_of_ble_eq_true rfl) (Nat.le_of_ble_eq_true rfl) (dk KX4_parse 2 rfl) (fun Pc h => okX4_begin hb _ Pc h) h (fun σ2 e3 h => ?_)
  try dsimp only at h
  refine X_iconst (dk KX4_parse 3 rfl) 0 (by decide) ?_
  refine X_istore_n [(2, .int 0), (0, .ref 38), (1, .ref b)] (dk KX4_parse 4 rfl) (by decide) rfl ?_
  refine X_iconst (dk KX4_parse 5 rfl) 0 (by decide) ?_
  refine X_istore_n [(3, .int 0), (2, .int 0), (0, .ref 38), (1, .ref b)] (dk KX4_parse 6 rfl) (by decide) rfl ?_
  refine X_sub [(0, .ref 38), (1, .ref b), (2, .int 0), (3, .int 0)] [2, 3, 1, 0] rfl ?_
  exact tX4_parse_9 hb FU 0 0 σ2 h

end G
