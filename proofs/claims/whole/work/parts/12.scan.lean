section G
variable {g : GP}
def fX6_rewind  (σ : PS) : Option (PS) := some (sI σ 40 1 0)
set_option maxRecDepth 100000 in
set_option maxHeartbeats 4000000 in
theorem okX6_rewind  (σ : PS) (P : PS → Prop) (h : hO (fX6_rewind  σ) P) : CON g mX6_rewind 0 0 0 [.ref 40] (HP σ) (pV P) := by
  refine CON.of (by decide) (by simp [lg_sl, Value.category]) ?_
  show X g _ _ _ _ _ 0 [(0, .ref 40)] [] _
  unfold fX6_rewind at h
  refine X_aload_n 0 rfl (dk KX6_rewind 0 rfl) ?_
  refine X_iconst (dk KX6_rewind 1 rfl) 0 (by decide) ?_
  refine Y_putI fX6_9 rfl (Nat.le_of_ble_eq_true rfl) rfl (dk KX6_rewind 2 rfl) ?_
  exact Y_vret (dk KX6_rewind 3 rfl) rfl h

def fX6_isBlank (a0 : Int32) (σ : PS) : Option (Int32 × PS) := (if a0 = 9 then some (1, σ) else (if a0 = 10 then some (1, σ) else (if a0 = 13 then some (1, σ) else (if a0 = 32 then some (1, σ) else some (0, σ)))))
set_option maxRecDepth 100000 in
set_option maxHeartbeats 4000000 in
theorem okX6_isBlank (a0 : Int32) (σ : PS) (P : Int32 × PS → Prop) (h : hO (fX6_isBlank a0 σ) P) : CON g mX6_isBlank 0 0 0 [.int a0] (HP σ) (pI P) := by
  refine CON.of (by decide) (by simp [lg_sl, Value.category]) ?_
  show X g _ _ _ _ _ 0 [(0, .int a0)] [] _
  unfold fX6_isBlank at h
  refine X_iload_n 0 rfl (dk KX6_isBlank 0 rfl) ?_
  refine X_bipush (dk KX6_isBlank 1 rfl) 9 (by decide) ?_
  refine X_icmp_eq 24 (dk KX6_isBlank 2 rfl) (by decide) (fun hc => ?_) (fun hc => ?_)
  · have h := hO_t hc h
    refine X_iconst (dk KX6_isBlank 12 rfl) 1 (by decide) ?_
    refine X_goto 29 (dk KX6_isBlank 13 rfl) (by decide) ?_
    exact Y_zret (dk KX6_isBlank 15 rfl) rfl (by decide) h
  · have h := hO_f hc h
    refine X_iload_n 0 rfl (dk KX6_isBlank 3 rfl) ?_
    refine X_bipush (dk KX6_isBlank 4 rfl) 10 (by decide) ?_
    refine X_icmp_eq 24 (dk KX6_isBlank 5 rfl) (by decide) (fun hc => ?_) (fun hc => ?_)
    · have h := hO_t hc h
      refine X_iconst (dk KX6_isBlank 12 rfl) 1 (by decide) ?_
      refine X_goto 29 (dk KX6_isBlank 13 rfl) (by decide) ?_
      exact Y_zret (dk KX6_isBlank 15 rfl) rfl (by decide) h
    · have h := hO_f hc h
      refine X_iload_n 0 rfl (dk KX6_isBlank 6 rfl) ?_
      refine X_bipush (dk KX6_isBlank 7 rfl) 13 (by decide) ?_
      refine X_icmp_eq 24 (dk KX6_isBlank 8 rfl) (by decide) (fun hc => ?_) (fun hc => ?_)
      · have h := hO_t hc h
        refine X_iconst (dk KX6_isBlank 12 rfl) 1 (by decide) ?_
        refine X_goto 29 (dk KX6_isBlank 13 rfl) (by decide) ?_
        exact Y_zret (dk KX6_isBlank 15 rfl) rfl (by decide) h
      · have h := hO_f hc h
        refine X_iload_n 0 rfl (dk KX6_isBlank 9 rfl) ?_
        refine X_bipush (dk KX6_isBlank 10 rfl) 32 (by decide) ?_
        refine X_icmp_ne 28 (dk KX6_isBlank 11 rfl) (by decide) (fun hc => ?_) (fun hc => ?_)
        · have h := hO_f hc h
          refine X_iconst (dk KX6_isBlank 14 rfl) 0 (by decide) ?_
          exact Y_zret (dk KX6_isBlank 15 rfl) rfl (by decide) h
        · have h := hO_t hc h
          refine X_iconst (dk KX6_isBlank 12 rfl) 1 (by decide) ?_
          refine X_goto 29 (dk KX6_isBlank 13 rfl) (by decide) ?_
          exact Y_zret (dk KX6_isBlank 15 rfl) rfl (by decide) h

def fX6_takeInt_79  (σ : PS) : Option (PS) := (if 4 < ((gi σ 40 1) - (gi σ 40 2)) then some (sI σ 40 3 1) else some (sI σ 40 3 2))
set_option maxRecDepth 100000 in
set_option maxHeartbeats 4000000 in
theorem tX6_takeInt_79 {P : PS → Prop}  (σ : PS) (h : hO (fX6_takeInt_79  σ) P) : X g mX6_takeInt 1 0 0 (pV P) 79 [(0, .ref 40)] [] (HP σ) := by
  unfold fX6_takeInt_79 at h
  refine X_aload_n 0 rfl (dk KX6_takeInt 39 rfl) ?_
  refine X_aload_n 0 rfl (dk KX6_takeInt 40 rfl) ?_
  refine Y_getI fX6_9 (Nat.le_of_ble_eq_true rfl) rfl (dk KX6_takeInt 41 rfl) ?_
  refine X_aload_n 0 rfl (dk KX6_takeInt 42 rfl) ?_
  refine Y_getI fX6_15 (Nat.le_of_ble_eq_true rfl) rfl (dk KX6_takeInt 43 rfl) ?_
  refine X_isub (dk KX6_takeInt 44 rfl) ?_
  refine X_iconst (dk KX6_takeInt 45 rfl) 4 (by decide) ?_
  refine X_icmp_gt 97 (dk KX6_takeInt 46 rfl) (by decide) (fun hc => ?_) (fun hc => ?_)
  · have h := hO_t hc h
    refine X_iconst (dk KX6_takeInt 49 rfl) 1 (by decide) ?_
    refine Y_putI fX6_18 rfl (Nat.le_of_ble_eq_true rfl) rfl (dk KX6_takeInt 50 rfl) ?_
    exact Y_vret (dk KX6_takeInt 51 rfl) rfl h
  · have h := hO_f hc h
    refine X_iconst (dk KX6_takeInt 47 rfl) 2 (by decide) ?_
    refine X_goto 98 (dk KX6_takeInt 48 rfl) (by decide) ?_
    refine Y_putI fX6_18 rfl (Nat.le_of_ble_eq_true rfl) rfl (dk KX6_takeInt 50 rfl) ?_
    exact Y_vret (dk KX6_takeInt 51 rfl) rfl h
def fX6_takeInt_5 : Nat → PS → Option (PS)
  | 0, _ => none
  | n + 1, σ => (if (gi σ 1 1) ≤ (gi σ 40 1) then fX6_takeInt_79 σ else (fX7_at (gi σ 40 1) σ).bind (fun qy1 => (fun (y1 : Int32) (σ2 : PS) => (fX8_isWithin y1 48 57 σ2).bind (fun qy4 => (fun (y4 : Int32) (σ5 : PS) => (if y4 = 0 then fX6_takeInt_79 σ5 else (fX7_at (gi σ5 40 1) σ5).bind (fun qy7 => (fun (y7 : Int32) (σ8 : PS) => fX6_takeInt_5 n (sI (sI σ8 40 4 ((((gi σ5 40 4) * 10) + y7) - 48)) 40 1 ((gi (sI σ8 40 4 ((((gi σ5 40 4) * 10) + y7) - 48)) 40 1) + 1))) qy7.1 qy7.2))) qy4.1 qy4.2)) qy1.1 qy1.2))
set_option maxRecDepth 100000 in
set_option maxHeartbeats 4000000 in
theorem tX6_takeInt_5 {P : PS → Prop} : ∀ (n : Nat)  (σ : PS), hO (fX6_takeInt_5 n  σ) P → X g mX6_takeInt 1 0 0 (pV P) 5 [(0, .ref 40)] [] (HP σ) := by
  intro n
  induction n with
  | zero =>
    intro  σ h
    rw [fX6_takeInt_5] at h
    exact (hO_none h).elim
  | succ n ih =>
    intro  σ h
    rw [fX6_takeInt_5] at h
    refine X_aload_n 0 rfl (dk KX6_takeInt 3 rfl) ?_
    refine Y_getI fX6_9 (Nat.le_of_ble_eq_true rfl) rfl (dk KX6_takeInt 4 rfl) ?_
    refine X_aload_n 0 rfl (dk KX6_takeInt 5 rfl) ?_
    refine Y_getR 1 fX6_24 (Nat.le_of_ble_eq_true rfl) rfl rfl (dk KX6_takeInt 6 rfl) ?_
    refine Y_getI fX6_28 (Nat.le_of_ble_eq_true rfl) rfl (dk KX6_takeInt 7 rfl) ?_
    refine X_icmp_ge 79 (dk KX6_takeInt 8 rfl) (by decide) (fun hc => ?_) (fun hc => ?_)
    · have h := hO_t hc h
      exact tX6_takeInt_79 σ h
    · have h := hO_f hc h
      refine X_aload_n 0 rfl (dk KX6_takeInt 9 rfl) ?_
      refine Y_getR 1 fX6_24 (Nat.le_of_ble_eq_true rfl) rfl rfl (dk KX6_takeInt 10 rfl) ?_
      refine X_aload_n 0 rfl (dk KX6_takeInt 11 rfl) ?_
      refine Y_getI fX6_9 (Nat.le_of_ble_eq_true rfl) rfl (dk KX6_takeInt 12 rfl) ?_
      refine Y_callVI wX6_33 (Nat.le_of_ble_eq_true rfl) rfl [.int (gi σ 40 1)] [] rfl rfl (Nat.le_of_ble_eq_true rfl) (Nat.le_of_ble_eq_true rfl) (dk KX6_takeInt 13 rfl) (fun Pc h => okX7_at _ _ Pc h) h (fun y1 σ2 e3 h => ?_)
      try dsimp only at h
      refine X_bipush (dk KX6_takeInt 14 rfl) 48 (by decide) ?_
      refine X_bipush (dk KX6_takeInt 15 rfl) 57 (by decide) ?_
      refine Y_callNI wX6_41 [.int y1, .int 48, .int 57] [] rfl rfl (Nat.le_of_ble_eq_true rfl) (Nat.le_of_ble_eq_true rfl) (dk KX6_takeInt 16 rfl) (fun Pc h => okX8_isWithin _ _ _ _ Pc h) h (fun y4 σ5 e6 h => ?_)
      try dsimp only at h
      refine X_if_eq 79 (dk KX6_takeInt 17 rfl) (by decide) (fun hc => ?_) (fun hc => ?_)
      · have h := hO_t hc h
        exact tX6_takeInt_79 σ5 h
      · have h := hO_f hc h
        refine X_aload_n 0 rfl (dk KX6_takeInt 18 rfl) ?_
        refine X_aload_n 0 rfl (dk KX6_takeInt 19 rfl) ?_
        refine Y_getI fX6_21 (Nat.le_of_ble_eq_true rfl) rfl (dk KX6_takeInt 20 rfl) ?_
        refine X_bipush (dk KX6_takeInt 21 rfl) 10 (by decide) ?_
        refine X_imul (dk KX6_takeInt 22 rfl) ?_
        refine X_aload_n 0 rfl (dk KX6_takeInt 23 rfl) ?_
        refine Y_getR 1 fX6_24 (Nat.le_of_ble_eq_true rfl) rfl rfl (dk KX6_takeInt 24 rfl) ?_
        refine X_aload_n 0 rfl (dk KX6_takeInt 25 rfl) ?_
        refine Y_getI fX6_9 (Nat.le_of_ble_eq_true rfl) rfl (dk KX6_takeInt 26 rfl) ?_
        refine Y_callVI wX6_33 (Nat.le_of_ble_eq_true rfl) rfl [.int (gi σ5 40 1)] [.int ((gi σ5 40 4) * 10), .ref 40] rfl rfl (Nat.le_of_ble_eq_true rfl) (Nat.le_of_ble_eq_true rfl) (dk KX6_takeInt 27 rfl) (fun Pc h => okX7_at _ _ Pc h) h (fun y7 σ8 e9 h => ?_)
        try dsimp only at h
        refine X_iadd (dk KX6_takeInt 28 rfl) ?_
        refine X_bipush (dk KX6_takeInt 29 rfl) 48 (by decide) ?_
        refine X_isub (dk KX6_takeInt 30 rfl) ?_
        refine Y_putI fX6_21 rfl (Nat.le_of_ble_eq_true rfl) rfl (dk KX6_takeInt 31 rfl) ?_
        refine X_aload_n 0 rfl (dk KX6_takeInt 32 rfl) ?_
        refine X_dup (dk KX6_takeInt 33 rfl) rfl ?_
        refine Y_getI fX6_9 (Nat.le_of_ble_eq_true rfl) rfl (dk KX6_takeInt 34 rfl) ?_
        refine X_iconst (dk KX6_takeInt 35 rfl) 1 (by decide) ?_
        refine X_iadd (dk KX6_takeInt 36 rfl) ?_
        refine Y_putI fX6_9 rfl (Nat.le_of_ble_eq_true rfl) rfl (dk KX6_takeInt 37 rfl) ?_
        refine X_goto 5 (dk KX6_takeInt 38 rfl) (by decide) ?_
        exact ih (sI (sI σ8 40 4 ((((gi σ5 40 4) * 10) + y7) - 48)) 40 1 ((gi (sI σ8 40 4 ((((gi σ5 40 4) * 10) + y7) - 48)) 40 1) + 1)) h
def fX6_takeInt  (σ : PS) : Option (PS) := fX6_takeInt_5 FU (sI σ 40 4 0)
set_option maxRecDepth 100000 in
set_option maxHeartbeats 4000000 in
theorem okX6_takeInt  (σ : PS) (P : PS → Prop) (h : hO (fX6_takeInt  σ) P) : CON g mX6_takeInt 1 0 0 [.ref 40] (HP σ) (pV P) := by
  refine CON.of (by decide) (by simp [lg_sl, Value.category]) ?_
  show X g _ _ _ _ _ 0 [(0, .ref 40)] [] _
  unfold fX6_takeInt at h
  refine X_aload_n 0 rfl (dk KX6_takeInt 0 rfl) ?_
  refine X_iconst (dk KX6_takeInt 1 rfl) 0 (by decide) ?_
  refine Y_putI fX6_21 rfl (Nat.le_of_ble_eq_true rfl) rfl (dk KX6_takeInt 2 rfl) ?_
  exact tX6_takeInt_5 FU (sI σ 40 4 0) h

def fX6_pairToken (a0 : Int32) (σ : PS) : Option (Int32 × PS) := (if a0 = 61 then some (21, σ) else (if a0 = 33 then some (22, σ) else some (24, σ)))
set_option maxRecDepth 100000 in
set_option maxHeartbeats 4000000 in
theorem okX6_pairToken (a0 : Int32) (σ : PS) (P : Int32 × PS → Prop) (h : hO (fX6_pairToken a0 σ) P) : CON g mX6_pairToken 0 0 0 [.int a0] (HP σ) (pI P) := by
  refine CON.of (by decide) (by simp [lg_sl, Value.category]) ?_
  show X g _ _ _ _ _ 0 [(0, .int a0)] [] _
  unfold fX6_pairToken at h
  refine X_iload_n 0 rfl (dk KX6_pairToken 0 rfl) ?_
  refine X_bipush (dk KX6_pairToken 1 rfl) 61 (by decide) ?_
  refine X_icmp_ne 9 (dk KX6_pairToken 2 rfl) (by decide) (fun hc => ?_) (fun hc => ?_)
  · have h := hO_f hc h
    refine X_iload_n 0 rfl (dk KX6_pairToken 5 rfl) ?_
    refine X_bipush (dk KX6_pairToken 6 rfl) 33 (by decide) ?_
    refine X_icmp_ne 20 (dk KX6_pairToken 7 rfl) (by decide) (fun hc => ?_) (fun hc => ?_)
    · have h := hO_f hc h
      refine X_bipush (dk KX6_pairToken 10 rfl) 24 (by decide) ?_
      exact Y_iret (dk KX6_pairToken 11 rfl) rfl h
    · have h := hO_t hc h
      refine X_bipush (dk KX6_pairToken 8 rfl) 22 (by decide) ?_
      refine X_goto 22 (dk KX6_pairToken 9 rfl) (by decide) ?_
      exact Y_iret (dk KX6_pairToken 11 rfl) rfl h
  · have h := hO_t hc h
    refine X_bipush (dk KX6_pairToken 3 rfl) 21 (by decide) ?_
    exact Y_iret (dk KX6_pairToken 4 rfl) rfl h

def fX6_signToken (a0 : Int32) (σ : PS) : Option (Int32 × PS) := (if a0 = 40 then some (25, σ) else (if a0 = 41 then some (26, σ) else (if a0 = 42 then some (20, σ) else (if a0 = 43 then some (18, σ) else (if a0 = 44 then some (1, σ) else (if a0 = 45 then some (19, σ) else (if a0 = 46 then some (1, σ) else (if a0 = 47 then some (1, σ) else (if a0 = 48 then some (1, σ) else (if a0 = 49 then some (1, σ) else (if a0 = 50 then some (1, σ) else (if a0 = 51 then some (1, σ) else (if a0 = 52 then some (1, σ) else (if a0 = 53 then some (1, σ) else (if a0 = 54 then some (1, σ) else (if a0 = 55 then some (1, σ) else (if a0 = 56 then some (1, σ) else (if a0 = 57 then some (1, σ) else (if a0 = 58 then some (1, σ) else (if a0 = 59 then some (17, σ) else (if a0 = 60 then some (23, σ) else some (1, σ))))))))))))))))))))))
set_option maxRecDepth 100000 in
set_option maxHeartbeats 4000000 in
theorem okX6_signToken (a0 : Int32) (σ : PS) (P : Int32 × PS → Prop) (h : hO (fX6_signToken a0 σ) P) : CON g mX6_signToken 0 0 0 [.int a0] (HP σ) (pI P) := by
  refine CON.of (by decide) (by simp [lg_sl, Value.category]) ?_
  show X g _ _ _ _ _ 0 [(0, .int a0)] [] _
  unfold fX6_signToken at h
  refine X_iload_n 0 rfl (dk KX6_signToken 0 rfl) ?_
  by_cases hs40 : a0 = (40 : Int32)
  · have h := hO_t hs40 h
    refine Y_tab 40 hs40 115 (dk KX6_signToken 1 rfl) (by decide) (by decide) rfl (by decide) ?_
    refine X_bipush (dk KX6_signToken 12 rfl) 25 (by decide) ?_
    exact Y_iret (dk KX6_signToken 13 rfl) rfl h
  have h := hO_f hs40 h
  by_cases hs41 : a0 = (41 : Int32)
  · have h := hO_t hs41 h
    refine Y_tab 41 hs41 118 (dk KX6_signToken 1 rfl) (by decide) (by decide) rfl (by decide) ?_
    refine X_bipush (dk KX6_signToken 14 rfl) 26 (by decide) ?_
    exact Y_iret (dk KX6_signToken 15 rfl) rfl h
  have h := hO_f hs41 h
  by_cases hs42 : a0 = (42 : Int32)
  · have h := hO_t hs42 h
    refine Y_tab 42 hs42 109 (dk KX6_signToken 1 rfl) (by decide) (by decide) rfl (by decide) ?_
    refine X_bipush (dk KX6_signToken 8 rfl) 20 (by decide) ?_
    exact Y_iret (dk KX6_signToken 9 rfl) rfl h
  have h := hO_f hs42 h
  by_cases hs43 : a0 = (43 : Int32)
  · have h := hO_t hs43 h
    refine Y_tab 43 hs43 103 (dk KX6_signToken 1 rfl) (by decide) (by decide) rfl (by decide) ?_
    refine X_bipush (dk KX6_signToken 4 rfl) 18 (by decide) ?_
    exact Y_iret (dk KX6_signToken 5 rfl) rfl h
  have h := hO_f hs43 h
  by_cases hs44 : a0 = (44 : Int32)
  · have h := hO_t hs44 h
    refine Y_tab 44 hs44 121 (dk KX6_signToken 1 rfl) (by decide) (by decide) rfl (by decide) ?_
    refine X_iconst (dk KX6_signToken 16 rfl) 1 (by decide) ?_
    exact Y_iret (dk KX6_signToken 17 rfl) rfl h
  have h := hO_f hs44 h
  by_cases hs45 : a0 = (45 : Int32)
  · have h := hO_t hs45 h
    refine Y_tab 45 hs45 106 (dk KX6_signToken 1 rfl) (by decide) (by decide) rfl (by decide) ?_
    refine X_bipush (dk KX6_signToken 6 rfl) 19 (by decide) ?_
    exact Y_iret (dk KX6_signToken 7 rfl) rfl h
  have h := hO_f hs45 h
  by_cases hs46 : a0 = (46 : Int32)
  · have h := hO_t hs46 h
    refine Y_tab 46 hs46 121 (dk KX6_signToken 1 rfl) (by decide) (by decide) rfl (by decide) ?_
    refine X_iconst (dk KX6_signToken 16 rfl) 1 (by decide) ?_
    exact Y_iret (dk KX6_signToken 17 rfl) rfl h
  have h := hO_f hs46 h
  by_cases hs47 : a0 = (47 : Int32)
  · have h := hO_t hs47 h
    refine Y_tab 47 hs47 121 (dk KX6_signToken 1 rfl) (by decide) (by decide) rfl (by decide) ?_
    refine X_iconst (dk KX6_signToken 16 rfl) 1 (by decide) ?_
    exact Y_iret (dk KX6_signToken 17 rfl) rfl h
  have h := hO_f hs47 h
  by_cases hs48 : a0 = (48 : Int32)
  · have h := hO_t hs48 h
    refine Y_tab 48 hs48 121 (dk KX6_signToken 1 rfl) (by decide) (by decide) rfl (by decide) ?_
    refine X_iconst (dk KX6_signToken 16 rfl) 1 (by decide) ?_
    exact Y_iret (dk KX6_signToken 17 rfl) rfl h
  have h := hO_f hs48 h
  by_cases hs49 : a0 = (49 : Int32)
  · have h := hO_t hs49 h
    refine Y_tab 49 hs49 121 (dk KX6_signToken 1 rfl) (by decide) (by decide) rfl (by decide) ?_
    refine X_iconst (dk KX6_signToken 16 rfl) 1 (by decide) ?_
    exact Y_iret (dk KX6_signToken 17 rfl) rfl h
  have h := hO_f hs49 h
  by_cases hs50 : a0 = (50 : Int32)
  · have h := hO_t hs50 h
    refine Y_tab 50 hs50 121 (dk KX6_signToken 1 rfl) (by decide) (by decide) rfl (by decide) ?_
    refine X_iconst (dk KX6_signToken 16 rfl) 1 (by decide) ?_
    exact Y_iret (dk KX6_signToken 17 rfl) rfl h
  have h := hO_f hs50 h
  by_cases hs51 : a0 = (51 : Int32)
  · have h := hO_t hs51 h
    refine Y_tab 51 hs51 121 (dk KX6_signToken 1 rfl) (by decide) (by decide) rfl (by decide) ?_
    refine X_iconst (dk KX6_signToken 16 rfl) 1 (by decide) ?_
    exact Y_iret (dk KX6_signToken 17 rfl) rfl h
  have h := hO_f hs51 h
  by_cases hs52 : a0 = (52 : Int32)
  · have h := hO_t hs52 h
    refine Y_tab 52 hs52 121 (dk KX6_signToken 1 rfl) (by decide) (by decide) rfl (by decide) ?_
    refine X_iconst (dk KX6_signToken 16 rfl) 1 (by decide) ?_
    exact Y_iret (dk KX6_signToken 17 rfl) rfl h
  have h := hO_f hs52 h
  by_cases hs53 : a0 = (53 : Int32)
  · have h := hO_t hs53 h
    refine Y_tab 53 hs53 121 (dk KX6_signToken 1 rfl) (by decide) (by decide) rfl (by decide) ?_
    refine X_iconst (dk KX6_signToken 16 rfl) 1 (by decide) ?_
    exact Y_iret (dk KX6_signToken 17 rfl) rfl h
  have h := hO_f hs53 h
  by_cases hs54 : a0 = (54 : Int32)
  · have h := hO_t hs54 h
    refine Y_tab 54 hs54 121 (dk KX6_signToken 1 rfl) (by decide) (by decide) rfl (by decide) ?_
    refine X_iconst (dk KX6_signToken 16 rfl) 1 (by decide) ?_
    exact Y_iret (dk KX6_signToken 17 rfl) rfl h
  have h := hO_f hs54 h
  by_cases hs55 : a0 = (55 : Int32)
  · have h := hO_t hs55 h
    refine Y_tab 55 hs55 121 (dk KX6_signToken 1 rfl) (by decide) (by decide) rfl (by decide) ?_
    refine X_iconst (dk KX6_signToken 16 rfl) 1 (by decide) ?_
    exact Y_iret (dk KX6_signToken 17 rfl) rfl h
  have h := hO_f hs55 h
  by_cases hs56 : a0 = (56 : Int32)
  · have h := hO_t hs56 h
    refine Y_tab 56 hs56 121 (dk KX6_signToken 1 rfl) (by decide) (by decide) rfl (by decide) ?_
    refine X_iconst (dk KX6_signToken 16 rfl) 1 (by decide) ?_
    exact Y_iret (dk KX6_signToken 17 rfl) rfl h
  have h := hO_f hs56 h
  by_cases hs57 : a0 = (57 : Int32)
  · have h := hO_t hs57 h
    refine Y_tab 57 hs57 121 (dk KX6_signToken 1 rfl) (by decide) (by decide) rfl (by decide) ?_
    refine X_iconst (dk KX6_signToken 16 rfl) 1 (by decide) ?_
    exact Y_iret (dk KX6_signToken 17 rfl) rfl h
  have h := hO_f hs57 h
  by_cases hs58 : a0 = (58 : Int32)
  · have h := hO_t hs58 h
    refine Y_tab 58 hs58 121 (dk KX6_signToken 1 rfl) (by decide) (by decide) rfl (by decide) ?_
    refine X_iconst (dk KX6_signToken 16 rfl) 1 (by decide) ?_
    exact Y_iret (dk KX6_signToken 17 rfl) rfl h
  have h := hO_f hs58 h
  by_cases hs59 : a0 = (59 : Int32)
  · have h := hO_t hs59 h
    refine Y_tab 59 hs59 100 (dk KX6_signToken 1 rfl) (by decide) (by decide) rfl (by decide) ?_
    refine X_bipush (dk KX6_signToken 2 rfl) 17 (by decide) ?_
    exact Y_iret (dk KX6_signToken 3 rfl) rfl h
  have h := hO_f hs59 h
  by_cases hs60 : a0 = (60 : Int32)
  · have h := hO_t hs60 h
    refine Y_tab 60 hs60 112 (dk KX6_signToken 1 rfl) (by decide) (by decide) rfl (by decide) ?_
    refine X_bipush (dk KX6_signToken 10 rfl) 23 (by decide) ?_
    exact Y_iret (dk KX6_signToken 11 rfl) rfl h
  have h := hO_f hs60 h
  refine X_tableOut 121 (dk KX6_signToken 1 rfl) (sw_out_40_60 hs40 hs41 hs42 hs43 hs44 hs45 hs46 hs47 hs48 hs49 hs50 hs51 hs52 hs53 hs54 hs55 hs56 hs57 hs58 hs59 hs60) (by decide) ?_
  refine X_iconst (dk KX6_signToken 16 rfl) 1 (by decide) ?_
  exact Y_iret (dk KX6_signToken 17 rfl) rfl h

def fX6_takeSign_58 (x2 : Int32) (s1 : Int32) (σ : PS) : Option (PS) := (if x2 = 0 then some (sI (sI σ 40 3 s1) 40 1 ((gi (sI σ 40 3 s1) 40 1) + 1)) else some (sI (sI σ 40 3 s1) 40 1 ((gi (sI σ 40 3 s1) 40 1) + 2)))
set_option maxRecDepth 100000 in
set_option maxHeartbeats 4000000 in
theorem tX6_takeSign_58 {P : PS → Prop} (x2 : Int32) (s1 : Int32) (σ : PS) (h : hO (fX6_takeSign_58 x2 s1 σ) P) : X g mX6_takeSign 1 0 0 (pV P) 58 [(0, .ref 40), (2, .int x2)] [.int s1, .ref 40] (HP σ) := by
  unfold fX6_takeSign_58 at h
  refine Y_putI fX6_18 rfl (Nat.le_of_ble_eq_true rfl) rfl (dk KX6_takeSign 30 rfl) ?_
  refine X_aload_n 0 rfl (dk KX6_takeSign 31 rfl) ?_
  refine X_dup (dk KX6_takeSign 32 rfl) rfl ?_
  refine Y_getI fX6_9 (Nat.le_of_ble_eq_true rfl) rfl (dk KX6_takeSign 33 rfl) ?_
  refine X_iload_n 1 rfl (dk KX6_takeSign 34 rfl) ?_
  refine X_if_eq 74 (dk KX6_takeSign 35 rfl) (by decide) (fun hc => ?_) (fun hc => ?_)
  · have h := hO_t hc h
    refine X_iconst (dk KX6_takeSign 38 rfl) 1 (by decide) ?_
    refine X_iadd (dk KX6_takeSign 39 rfl) ?_
    refine Y_putI fX6_9 rfl (Nat.le_of_ble_eq_true rfl) rfl (dk KX6_takeSign 40 rfl) ?_
    exact Y_vret (dk KX6_takeSign 41 rfl) rfl h
  · have h := hO_f hc h
    refine X_iconst (dk KX6_takeSign 36 rfl) 2 (by decide) ?_
    refine X_goto 75 (dk KX6_takeSign 37 rfl) (by decide) ?_
    refine X_iadd (dk KX6_takeSign 39 rfl) ?_
    refine Y_putI fX6_9 rfl (Nat.le_of_ble_eq_true rfl) rfl (dk KX6_takeSign 40 rfl) ?_
    exact Y_vret (dk KX6_takeSign 41 rfl) rfl h
def fX6_takeSign_41 (x1 : Int32) (s0 : Int32) (σ : PS) : Option (PS) := (if s0 = 0 then (fX6_signToken x1 σ).bind (fun qy4 => (fun (y4 : Int32) (σ5 : PS) => fX6_takeSign_58 s0 y4 σ5) qy4.1 qy4.2) else (fX6_pairToken x1 σ).bind (fun qy7 => (fun (y7 : Int32) (σ8 : PS) => fX6_takeSign_58 s0 y7 σ8) qy7.1 qy7.2))
set_option maxRecDepth 100000 in
set_option maxHeartbeats 4000000 in
theorem tX6_takeSign_41 {P : PS → Prop} (x1 : Int32) (s0 : Int32) (σ : PS) (h : hO (fX6_takeSign_41 x1 s0 σ) P) : X g mX6_takeSign 1 0 0 (pV P) 41 [(0, .ref 40), (1, .int x1)] [.int s0] (HP σ) := by
  unfold fX6_takeSign_41 at h
  refine X_istore_n [(2, .int s0), (0, .ref 40), (1, .int x1)] (dk KX6_takeSign 21 rfl) (by decide) rfl ?_
  refine X_aload_n 1 rfl (dk KX6_takeSign 22 rfl) ?_
  refine X_iload_n 0 rfl (dk KX6_takeSign 23 rfl) ?_
  refine X_if_eq 54 (dk KX6_takeSign 24 rfl) (by decide) (fun hc => ?_) (fun hc => ?_)
  · have h := hO_t hc h
    refine X_iload_n 2 rfl (dk KX6_takeSign 28 rfl) ?_
    refine Y_callSI wX6_62 [.int x1] [.ref 40] rfl rfl (Nat.le_of_ble_eq_true rfl) (Nat.le_of_ble_eq_true rfl) (dk KX6_takeSign 29 rfl) (fun Pc h => okX6_signToken _ _ Pc h) h (fun y4 σ5 e6 h => ?_)
    try dsimp only at h
    refine X_sub [(0, .ref 40), (2, .int s0)] [1, 0] rfl ?_
    exact tX6_takeSign_58 s0 y4 σ5 h
  · have h := hO_f hc h
    refine X_iload_n 2 rfl (dk KX6_takeSign 25 rfl) ?_
    refine Y_callSI wX6_59 [.int x1] [.ref 40] rfl rfl (Nat.le_of_ble_eq_true rfl) (Nat.le_of_ble_eq_true rfl) (dk KX6_takeSign 26 rfl) (fun Pc h => okX6_pairToken _ _ Pc h) h (fun y7 σ8 e9 h => ?_)
    try dsimp only at h
    refine X_goto 58 (dk KX6_takeSign 27 rfl) (by decide) ?_
    refine X_sub [(0, .ref 40), (2, .int s0)] [1, 0] rfl ?_
    exact tX6_takeSign_58 s0 y7 σ8 h
def fX6_takeSign_40 (x1 : Int32) (σ : PS) : Option (PS) := fX6_takeSign_41 x1 0 σ
set_option maxRecDepth 100000 in
set_option maxHeartbeats 4000000 in
theorem tX6_takeSign_40 {P : PS → Prop} (x1 : Int32) (σ : PS) (h : hO (fX6_takeSign_40 x1 σ) P) : X g mX6_takeSign 1 0 0 (pV P) 40 [(0, .ref 40), (1, .int x1)] [] (HP σ) := by
  unfold fX6_takeSign_40 at h
  refine X_iconst (dk KX6_takeSign 20 rfl) 0 (by decide) ?_
  exact tX6_takeSign_41 x1 0 σ h
def fX6_takeSign_36 (x1 : Int32) (σ : PS) : Option (PS) := fX6_takeSign_41 x1 1 σ
set_option maxRecDepth 100000 in
set_option maxHeartbeats 4000000 in
theorem tX6_takeSign_36 {P : PS → Prop} (x1 : Int32) (σ : PS) (h : hO (fX6_takeSign_36 x1 σ) P) : X g mX6_takeSign 1 0 0 (pV P) 36 [(0, .ref 40), (1, .int x1)] [] (HP σ) := by
  unfold fX6_takeSign_36 at h
  refine X_iconst (dk KX6_takeSign 18 rfl) 1 (by decide) ?_
  refine X_goto 41 (dk KX6_takeSign 19 rfl) (by decide) ?_
  exact tX6_takeSign_41 x1 1 σ h
def fX6_takeSign (a1 : Int32) (σ : PS) : Option (PS) := (fX7_at ((gi σ 40 1) + 1) σ).bind (fun qy1 => (fun (y1 : Int32) (σ2 : PS) => (if y1 = 61 then (if a1 = 61 then fX6_takeSign_36 a1 σ2 else (if a1 = 33 then fX6_takeSign_36 a1 σ2 else (if a1 = 60 then fX6_takeSign_36 a1 σ2 else fX6_takeSign_40 a1 σ2))) else fX6_takeSign_40 a1 σ2)) qy1.1 qy1.2)
set_option maxRecDepth 100000 in
set_option maxHeartbeats 4000000 in
theorem okX6_takeSign (a1 : Int32) (σ : PS) (P : PS → Prop) (h : hO (fX6_takeSign a1 σ) P) : CON g mX6_takeSign 1 0 0 [.ref 40, .int a1] (HP σ) (pV P) := by
  refine CON.of (by decide) (by simp [lg_sl, Value.category]) ?_
  show X g _ _ _ _ _ 0 [(0, .ref 40), (1, .int a1)] [] _
  unfold fX6_takeSign at h
  refine X_aload_n 0 rfl (dk KX6_takeSign 0 rfl) ?_
  refine Y_getR 1 fX6_24 (Nat.le_of_ble_eq_true rfl) rfl rfl (dk KX6_takeSign 1 rfl) ?_
  refine X_aload_n 0 rfl (dk KX6_takeSign 2 rfl) ?_
  refine Y_getI fX6_9 (Nat.le_of_ble_eq_true rfl) rfl (dk KX6_takeSign 3 rfl) ?_
  refine X_iconst (dk KX6_takeSign 4 rfl) 1 (by decide) ?_
  refine X_iadd (dk KX6_takeSign 5 rfl) ?_
  refine Y_callVI wX6_33 (Nat.le_of_ble_eq_true rfl) rfl [.int ((gi σ 40 1) + 1)] [] rfl rfl (Nat.le_of_ble_eq_true rfl) (Nat.le_of_ble_eq_true rfl) (dk KX6_takeSign 6 rfl) (fun Pc h => okX7_at _ _ Pc h) h (fun y1 σ2 e3 h => ?_)
  try dsimp only at h
  refine X_bipush (dk KX6_takeSign 7 rfl) 61 (by decide) ?_
  refine X_icmp_ne 40 (dk KX6_takeSign 8 rfl) (by decide) (fun hc => ?_) (fun hc => ?_)
  · have h := hO_f hc h
    exact tX6_takeSign_40 a1 σ2 h
  · have h := hO_t hc h
    refine X_iload_n 1 rfl (dk KX6_takeSign 9 rfl) ?_
    refine X_bipush (dk KX6_takeSign 10 rfl) 61 (by decide) ?_
    refine X_icmp_eq 36 (dk KX6_takeSign 11 rfl) (by decide) (fun hc => ?_) (fun hc => ?_)
    · have h := hO_t hc h
      exact tX6_takeSign_36 a1 σ2 h
    · have h := hO_f hc h
      refine X_iload_n 1 rfl (dk KX6_takeSign 12 rfl) ?_
      refine X_bipush (dk KX6_takeSign 13 rfl) 33 (by decide) ?_
      refine X_icmp_eq 36 (dk KX6_takeSign 14 rfl) (by decide) (fun hc => ?_) (fun hc => ?_)
      · have h := hO_t hc h
        exact tX6_takeSign_36 a1 σ2 h
      · have h := hO_f hc h
        refine X_iload_n 1 rfl (dk KX6_takeSign 15 rfl) ?_
        refine X_bipush (dk KX6_takeSign 16 rfl) 60 (by decide) ?_
        refine X_icmp_ne 40 (dk KX6_takeSign 17 rfl) (by decide) (fun hc => ?_) (fun hc => ?_)
        · have h := hO_f hc h
          exact tX6_takeSign_40 a1 σ2 h
        · have h := hO_t hc h
          exact tX6_takeSign_36 a1 σ2 h

def fX6_wordToken_101 (r12 : Int32 → Int32 → Int32 → Int32 → PS → Option (Int32 × PS)) (x1 : Int32) (x2 : Int32) (x3 : Int32) (x4 : Int32) (σ : PS) : Option (Int32 × PS) := r12 x1 x2 x3 (x4 + 1) σ
set_option maxRecDepth 100000 in
set_option maxHeartbeats 4000000 in
theorem tX6_wordToken_101 {P : Int32 × PS → Prop} {r12 : Int32 → Int32 → Int32 → Int32 → PS → Option (Int32 × PS)} (hr_12 : ∀ (x1 : Int32) (x2 : Int32) (x3 : Int32) (x4 : Int32) (σ : PS), hO (r12 x1 x2 x3 x4 σ) P → X g mX6_wordToken 5 0 0 (pI P) 12 [(0, .ref 40), (1, .int x1), (2, .int x2), (3, .int x3), (4, .int x4)] [] (HP σ)) (x1 : Int32) (x2 : Int32) (x3 : Int32) (x4 : Int32) (σ : PS) (h : hO (fX6_wordToken_101 r12 x1 x2 x3 x4 σ) P) : X g mX6_wordToken 5 0 0 (pI P) 101 [(0, .ref 40), (1, .int x1), (2, .int x2), (3, .int x3), (4, .int x4)] [] (HP σ) := by
  unfold fX6_wordToken_101 at h
  refine X_iinc 4 1 [(4, .int (x4 + 1)), (0, .ref 40), (1, .int x1), (2, .int x2), (3, .int x3)] (dk KX6_wordToken 54 rfl) rfl (by decide) (by decide) rfl ?_
  refine X_goto 12 (dk KX6_wordToken 55 rfl) (by decide) ?_
  refine X_sub [(0, .ref 40), (1, .int x1), (2, .int x2), (3, .int x3), (4, .int (x4 + 1))] [1, 2, 3, 4, 0] rfl ?_
  exact hr_12 x1 x2 x3 (x4 + 1) σ h
def fX6_wordToken_91 (r12 : Int32 → Int32 → Int32 → Int32 → PS → Option (Int32 × PS)) (x1 : Int32) (x4 : Int32) (σ : PS) : Option (Int32 × PS) := fX6_wordToken_101 r12 (x1 + 1) (gi σ 40 2) 1 x4 σ
set_option maxRecDepth 100000 in
set_option maxHeartbeats 4000000 in
theorem tX6_wordToken_91 {P : Int32 × PS → Prop} {r12 : Int32 → Int32 → Int32 → Int32 → PS → Option (Int32 × PS)} (hr_12 : ∀ (x1 : Int32) (x2 : Int32) (x3 : Int32) (x4 : Int32) (σ : PS), hO (r12 x1 x2 x3 x4 σ) P → X g mX6_wordToken 5 0 0 (pI P) 12 [(0, .ref 40), (1, .int x1), (2, .int x2), (3, .int x3), (4, .int x4)] [] (HP σ)) (x1 : Int32) (x4 : Int32) (σ : PS) (h : hO (fX6_wordToken_91 r12 x1 x4 σ) P) : X g mX6_wordToken 5 0 0 (pI P) 91 [(0, .ref 40), (1, .int x1), (4, .int x4)] [] (HP σ) := by
  unfold fX6_wordToken_91 at h
  refine X_iinc 1 1 [(1, .int (x1 + 1)), (0, .ref 40), (4, .int x4)] (dk KX6_wordToken 48 rfl) rfl (by decide) (by decide) rfl ?_
  refine X_aload_n 1 rfl (dk KX6_wordToken 49 rfl) ?_
  refine Y_getI fX6_15 (Nat.le_of_ble_eq_true rfl) rfl (dk KX6_wordToken 50 rfl) ?_
  refine X_istore_n [(2, .int (gi σ 40 2)), (1, .int (x1 + 1)), (0, .ref 40), (4, .int x4)] (dk KX6_wordToken 51 rfl) (by decide) rfl ?_
  refine X_iconst (dk KX6_wordToken 52 rfl) 1 (by decide) ?_
  refine X_istore_n [(3, .int 1), (2, .int (gi σ 40 2)), (1, .int (x1 + 1)), (0, .ref 40), (4, .int x4)] (dk KX6_wordToken 53 rfl) (by decide) rfl ?_
  refine X_sub [(0, .ref 40), (1, .int (x1 + 1)), (2, .int (gi σ 40 2)), (3, .int 1), (4, .int x4)] [3, 2, 1, 0, 4] rfl ?_
  exact tX6_wordToken_101 hr_12 (x1 + 1) (gi σ 40 2) 1 x4 σ h
def fX6_wordToken_68 (r12 : Int32 → Int32 → Int32 → Int32 → PS → Option (Int32 × PS)) (x1 : Int32) (x2 : Int32) (x4 : Int32) (s0 : Int32) (σ : PS) : Option (Int32 × PS) := fX6_wordToken_101 r12 x1 (x2 + 1) s0 x4 σ
set_option maxRecDepth 100000 in
set_option maxHeartbeats 4000000 in
theorem tX6_wordToken_68 {P : Int32 × PS → Prop} {r12 : Int32 → Int32 → Int32 → Int32 → PS → Option (Int32 × PS)} (hr_12 : ∀ (x1 : Int32) (x2 : Int32) (x3 : Int32) (x4 : Int32) (σ : PS), hO (r12 x1 x2 x3 x4 σ) P → X g mX6_wordToken 5 0 0 (pI P) 12 [(0, .ref 40), (1, .int x1), (2, .int x2), (3, .int x3), (4, .int x4)] [] (HP σ)) (x1 : Int32) (x2 : Int32) (x4 : Int32) (s0 : Int32) (σ : PS) (h : hO (fX6_wordToken_68 r12 x1 x2 x4 s0 σ) P) : X g mX6_wordToken 5 0 0 (pI P) 68 [(0, .ref 40), (1, .int x1), (2, .int x2), (4, .int x4)] [.int s0] (HP σ) := by
  unfold fX6_wordToken_68 at h
  refine X_istore_n [(3, .int s0), (0, .ref 40), (1, .int x1), (2, .int x2), (4, .int x4)] (dk KX6_wordToken 35 rfl) (by decide) rfl ?_
  refine X_iinc 3 1 [(2, .int (x2 + 1)), (3, .int s0), (0, .ref 40), (1, .int x1), (4, .int x4)] (dk KX6_wordToken 36 rfl) rfl (by decide) (by decide) rfl ?_
  refine X_goto 101 (dk KX6_wordToken 37 rfl) (by decide) ?_
  refine X_sub [(0, .ref 40), (1, .int x1), (2, .int (x2 + 1)), (3, .int s0), (4, .int x4)] [2, 3, 0, 1, 4] rfl ?_
  exact tX6_wordToken_101 hr_12 x1 (x2 + 1) s0 x4 σ h
def fX6_wordToken_67 (r12 : Int32 → Int32 → Int32 → Int32 → PS → Option (Int32 × PS)) (x1 : Int32) (x2 : Int32) (x4 : Int32) (σ : PS) : Option (Int32 × PS) := fX6_wordToken_68 r12 x1 x2 x4 0 σ
set_option maxRecDepth 100000 in
set_option maxHeartbeats 4000000 in
theorem tX6_wordToken_67 {P : Int32 × PS → Prop} {r12 : Int32 → Int32 → Int32 → Int32 → PS → Option (Int32 × PS)} (hr_12 : ∀ (x1 : Int32) (x2 : Int32) (x3 : Int32) (x4 : Int32) (σ : PS), hO (r12 x1 x2 x3 x4 σ) P → X g mX6_wordToken 5 0 0 (pI P) 12 [(0, .ref 40), (1, .int x1), (2, .int x2), (3, .int x3), (4, .int x4)] [] (HP σ)) (x1 : Int32) (x2 : Int32) (x4 : Int32) (σ : PS) (h : hO (fX6_wordToken_67 r12 x1 x2 x4 σ) P) : X g mX6_wordToken 5 0 0 (pI P) 67 [(0, .ref 40), (1, .int x1), (2, .int x2), (4, .int x4)] [] (HP σ) := by
  unfold fX6_wordToken_67 at h
  refine X_iconst (dk KX6_wordToken 34 rfl) 0 (by decide) ?_
  exact tX6_wordToken_68 hr_12 x1 x2 x4 0 σ h
def fX6_wordToken_12 : Nat → Int32 → Int32 → Int32 → Int32 → PS → Option (Int32 × PS)
  | 0, _, _, _, _, _ => none
  | n + 1, x1, x2, x3, x4, σ => (if 70 ≤ x4 then some (1, σ) else gd (inb x4 70) ((if (chW (x4 : Int32).toNatClampNeg) = 32 then (if x3 = 0 then fX6_wordToken_91 (fX6_wordToken_12 n) x1 x4 σ else (if x2 = (gi σ 40 1) then some ((3 + x1), σ) else fX6_wordToken_91 (fX6_wordToken_12 n) x1 x4 σ)) else (if x3 = 0 then fX6_wordToken_67 (fX6_wordToken_12 n) x1 x2 x4 σ else (if (gi σ 40 1) ≤ x2 then fX6_wordToken_67 (fX6_wordToken_12 n) x1 x2 x4 σ else (fX7_at x2 σ).bind (fun qy2 => (fun (y2 : Int32) (σ3 : PS) => (if y2 = (chW (x4 : Int32).toNatClampNeg) then fX6_wordToken_68 (fX6_wordToken_12 n) x1 x2 x4 1 σ3 else fX6_wordToken_67 (fX6_wordToken_12 n) x1 x2 x4 σ3)) qy2.1 qy2.2))))))
set_option maxRecDepth 100000 in
set_option maxHeartbeats 4000000 in
theorem tX6_wordToken_12 {P : Int32 × PS → Prop} : ∀ (n : Nat) (x1 : Int32) (x2 : Int32) (x3 : Int32) (x4 : Int32) (σ : PS), hO (fX6_wordToken_12 n x1 x2 x3 x4 σ) P → X g mX6_wordToken 5 0 0 (pI P) 12 [(0, .ref 40), (1, .int x1), (2, .int x2), (3, .int x3), (4, .int x4)] [] (HP σ) := by
  intro n
  induction n with
  | zero =>
    intro x1 x2 x3 x4 σ h
    rw [fX6_wordToken_12] at h
    exact (hO_none h).elim
  | succ n ih =>
    intro x1 x2 x3 x4 σ h
    rw [fX6_wordToken_12] at h
    refine X_iload 4 rfl (dk KX6_wordToken 9 rfl) ?_
    refine X_ldcS rfl (dk KX6_wordToken 10 rfl) ?_
    refine X_strlen (Nat.le_of_ble_eq_true rfl) (Nat.le_of_ble_eq_true rfl) jsl_67 (dk KX6_wordToken 11 rfl) ?_
    refine X_icmp_ge 107 (dk KX6_wordToken 12 rfl) (by decide) (fun hc => ?_) (fun hc => ?_)
    · have h := hO_t hc h
      refine X_iconst (dk KX6_wordToken 56 rfl) 1 (by decide) ?_
      exact Y_iret (dk KX6_wordToken 57 rfl) rfl h
    · have h := hO_f hc h
      refine X_ldcS rfl (dk KX6_wordToken 13 rfl) ?_
      refine X_iload 4 rfl (dk KX6_wordToken 14 rfl) ?_
      refine Y_charAt (Nat.le_of_ble_eq_true rfl) (Nat.le_of_ble_eq_true rfl) jsl_71 (dk KX6_wordToken 15 rfl) h (fun hi1 h => ?_)
      refine X_istore [(5, .int (chW (x4 : Int32).toNatClampNeg)), (0, .ref 40), (1, .int x1), (2, .int x2), (3, .int x3), (4, .int x4)] (dk KX6_wordToken 16 rfl) (by decide) rfl ?_
      refine X_iload 0 rfl (dk KX6_wordToken 17 rfl) ?_
      refine X_bipush (dk KX6_wordToken 18 rfl) 32 (by decide) ?_
      refine X_icmp_eq 75 (dk KX6_wordToken 19 rfl) (by decide) (fun hc => ?_) (fun hc => ?_)
      · have h := hO_t hc h
        refine X_iload_n 4 rfl (dk KX6_wordToken 38 rfl) ?_
        refine X_if_eq 91 (dk KX6_wordToken 39 rfl) (by decide) (fun hc => ?_) (fun hc => ?_)
        · have h := hO_t hc h
          refine X_sub [(0, .ref 40), (1, .int x1), (4, .int x4)] [1, 2, 5] rfl ?_
          exact tX6_wordToken_91 ih x1 x4 σ h
        · have h := hO_f hc h
          refine X_iload_n 3 rfl (dk KX6_wordToken 40 rfl) ?_
          refine X_aload_n 1 rfl (dk KX6_wordToken 41 rfl) ?_
          refine Y_getI fX6_9 (Nat.le_of_ble_eq_true rfl) rfl (dk KX6_wordToken 42 rfl) ?_
          refine X_icmp_ne 91 (dk KX6_wordToken 43 rfl) (by decide) (fun hc => ?_) (fun hc => ?_)
          · have h := hO_f hc h
            refine X_sub [(0, .ref 40), (1, .int x1), (4, .int x4)] [1, 2, 5] rfl ?_
            exact tX6_wordToken_91 ih x1 x4 σ h
          · have h := hO_t hc h
            refine X_iconst (dk KX6_wordToken 44 rfl) 3 (by decide) ?_
            refine X_iload_n 2 rfl (dk KX6_wordToken 45 rfl) ?_
            refine X_iadd (dk KX6_wordToken 46 rfl) ?_
            exact Y_iret (dk KX6_wordToken 47 rfl) rfl h
      · have h := hO_f hc h
        refine X_iload_n 4 rfl (dk KX6_wordToken 20 rfl) ?_
        refine X_if_eq 67 (dk KX6_wordToken 21 rfl) (by decide) (fun hc => ?_) (fun hc => ?_)
        · have h := hO_t hc h
          refine X_sub [(0, .ref 40), (1, .int x1), (2, .int x2), (4, .int x4)] [1, 2, 3, 5] rfl ?_
          exact tX6_wordToken_67 ih x1 x2 x4 σ h
        · have h := hO_f hc h
          refine X_iload_n 3 rfl (dk KX6_wordToken 22 rfl) ?_
          refine X_aload_n 1 rfl (dk KX6_wordToken 23 rfl) ?_
          refine Y_getI fX6_9 (Nat.le_of_ble_eq_true rfl) rfl (dk KX6_wordToken 24 rfl) ?_
          refine X_icmp_ge 67 (dk KX6_wordToken 25 rfl) (by decide) (fun hc => ?_) (fun hc => ?_)
          · have h := hO_t hc h
            refine X_sub [(0, .ref 40), (1, .int x1), (2, .int x2), (4, .int x4)] [1, 2, 3, 5] rfl ?_
            exact tX6_wordToken_67 ih x1 x2 x4 σ h
          · have h := hO_f hc h
            refine X_aload_n 1 rfl (dk KX6_wordToken 26 rfl) ?_
            refine Y_getR 1 fX6_24 (Nat.le_of_ble_eq_true rfl) rfl rfl (dk KX6_wordToken 27 rfl) ?_
            refine X_iload_n 3 rfl (dk KX6_wordToken 28 rfl) ?_
            refine Y_callVI wX6_33 (Nat.le_of_ble_eq_true rfl) rfl [.int x2] [] rfl rfl (Nat.le_of_ble_eq_true rfl) (Nat.le_of_ble_eq_true rfl) (dk KX6_wordToken 29 rfl) (fun Pc h => okX7_at _ _ Pc h) h (fun y2 σ3 e4 h => ?_)
            try dsimp only at h
            refine X_iload 0 rfl (dk KX6_wordToken 30 rfl) ?_
            refine X_icmp_ne 67 (dk KX6_wordToken 31 rfl) (by decide) (fun hc => ?_) (fun hc => ?_)
            · have h := hO_f hc h
              refine X_sub [(0, .ref 40), (1, .int x1), (2, .int x2), (4, .int x4)] [1, 2, 3, 5] rfl ?_
              exact tX6_wordToken_67 ih x1 x2 x4 σ3 h
            · have h := hO_t hc h
              refine X_iconst (dk KX6_wordToken 32 rfl) 1 (by decide) ?_
              refine X_goto 68 (dk KX6_wordToken 33 rfl) (by decide) ?_
              refine X_sub [(0, .ref 40), (1, .int x1), (2, .int x2), (4, .int x4)] [1, 2, 3, 5] rfl ?_
              exact tX6_wordToken_68 ih x1 x2 x4 1 σ3 h
def fX6_wordToken  (σ : PS) : Option (Int32 × PS) := fX6_wordToken_12 FU 0 (gi σ 40 2) 1 0 σ
set_option maxRecDepth 100000 in
set_option maxHeartbeats 4000000 in
theorem okX6_wordToken  (σ : PS) (P : Int32 × PS → Prop) (h : hO (fX6_wordToken  σ) P) : CON g mX6_wordToken 5 0 0 [.ref 40] (HP σ) (pI P) := by
  refine CON.of (by decide) (by simp [lg_sl, Value.category]) ?_
  show X g _ _ _ _ _ 0 [(0, .ref 40)] [] _
  unfold fX6_wordToken at h
  refine X_iconst (dk KX6_wordToken 0 rfl) 0 (by decide) ?_
  refine X_istore_n [(1, .int 0), (0, .ref 40)] (dk KX6_wordToken 1 rfl) (by decide) rfl ?_
  refine X_aload_n 1 rfl (dk KX6_wordToken 2 rfl) ?_
  refine Y_getI fX6_15 (Nat.le_of_ble_eq_true rfl) rfl (dk KX6_wordToken 3 rfl) ?_
  refine X_istore_n [(2, .int (gi σ 40 2)), (1, .int 0), (0, .ref 40)] (dk KX6_wordToken 4 rfl) (by decide) rfl ?_
  refine X_iconst (dk KX6_wordToken 5 rfl) 1 (by decide) ?_
  refine X_istore_n [(3, .int 1), (2, .int (gi σ 40 2)), (1, .int 0), (0, .ref 40)] (dk KX6_wordToken 6 rfl) (by decide) rfl ?_
  refine X_iconst (dk KX6_wordToken 7 rfl) 0 (by decide) ?_
  refine X_istore [(4, .int 0), (3, .int 1), (2, .int (gi σ 40 2)), (1, .int 0), (0, .ref 40)] (dk KX6_wordToken 8 rfl) (by decide) rfl ?_
  refine X_sub [(0, .ref 40), (1, .int 0), (2, .int (gi σ 40 2)), (3, .int 1), (4, .int 0)] [4, 3, 2, 1, 0] rfl ?_
  exact tX6_wordToken_12 FU 0 (gi σ 40 2) 1 0 σ h

def fX6_takeWord_48  (σ : PS) : Option (PS) := (if 8 < ((gi σ 40 1) - (gi σ 40 2)) then some (sI σ 40 3 1) else (fX6_wordToken σ).bind (fun qy7 => (fun (y7 : Int32) (σ8 : PS) => some (sI σ8 40 3 y7)) qy7.1 qy7.2))
set_option maxRecDepth 100000 in
set_option maxHeartbeats 4000000 in
theorem tX6_takeWord_48 {P : PS → Prop}  (σ : PS) (h : hO (fX6_takeWord_48  σ) P) : X g mX6_takeWord 6 0 0 (pV P) 48 [(0, .ref 40)] [] (HP σ) := by
  unfold fX6_takeWord_48 at h
  refine X_aload_n 0 rfl (dk KX6_takeWord 22 rfl) ?_
  refine X_aload_n 0 rfl (dk KX6_takeWord 23 rfl) ?_
  refine Y_getI fX6_9 (Nat.le_of_ble_eq_true rfl) rfl (dk KX6_takeWord 24 rfl) ?_
  refine X_aload_n 0 rfl (dk KX6_takeWord 25 rfl) ?_
  refine Y_getI fX6_15 (Nat.le_of_ble_eq_true rfl) rfl (dk KX6_takeWord 26 rfl) ?_
  refine X_isub (dk KX6_takeWord 27 rfl) ?_
  refine X_bipush (dk KX6_takeWord 28 rfl) 8 (by decide) ?_
  refine X_icmp_gt 70 (dk KX6_takeWord 29 rfl) (by decide) (fun hc => ?_) (fun hc => ?_)
  · have h := hO_t hc h
    refine X_iconst (dk KX6_takeWord 33 rfl) 1 (by decide) ?_
    refine Y_putI fX6_18 rfl (Nat.le_of_ble_eq_true rfl) rfl (dk KX6_takeWord 34 rfl) ?_
    exact Y_vret (dk KX6_takeWord 35 rfl) rfl h
  · have h := hO_f hc h
    refine X_aload_n 0 rfl (dk KX6_takeWord 30 rfl) ?_
    refine Y_callVI wX6_55 (Nat.le_of_ble_eq_true rfl) rfl [] [.ref 40] rfl rfl (Nat.le_of_ble_eq_true rfl) (Nat.le_of_ble_eq_true rfl) (dk KX6_takeWord 31 rfl) (fun Pc h => okX6_wordToken _ Pc h) h (fun y7 σ8 e9 h => ?_)
    try dsimp only at h
    refine X_goto 71 (dk KX6_takeWord 32 rfl) (by decide) ?_
    refine Y_putI fX6_18 rfl (Nat.le_of_ble_eq_true rfl) rfl (dk KX6_takeWord 34 rfl) ?_
    exact Y_vret (dk KX6_takeWord 35 rfl) rfl h
def fX6_takeWord_0 : Nat → PS → Option (PS)
  | 0, _ => none
  | n + 1, σ => (if (gi σ 1 1) ≤ (gi σ 40 1) then fX6_takeWord_48 σ else (fX7_at (gi σ 40 1) σ).bind (fun qy1 => (fun (y1 : Int32) (σ2 : PS) => (fX8_isWithin y1 97 122 σ2).bind (fun qy4 => (fun (y4 : Int32) (σ5 : PS) => (if y4 = 0 then fX6_takeWord_48 σ5 else fX6_takeWord_0 n (sI σ5 40 1 ((gi σ5 40 1) + 1)))) qy4.1 qy4.2)) qy1.1 qy1.2))
set_option maxRecDepth 100000 in
set_option maxHeartbeats 4000000 in
theorem tX6_takeWord_0 {P : PS → Prop} : ∀ (n : Nat)  (σ : PS), hO (fX6_takeWord_0 n  σ) P → X g mX6_takeWord 6 0 0 (pV P) 0 [(0, .ref 40)] [] (HP σ) := by
  intro n
  induction n with
  | zero =>
    intro  σ h
    rw [fX6_takeWord_0] at h
    exact (hO_none h).elim
  | succ n ih =>
    intro  σ h
    rw [fX6_takeWord_0] at h
    refine X_aload_n 0 rfl (dk KX6_takeWord 0 rfl) ?_
    refine Y_getI fX6_9 (Nat.le_of_ble_eq_true rfl) rfl (dk KX6_takeWord 1 rfl) ?_
    refine X_aload_n 0 rfl (dk KX6_takeWord 2 rfl) ?_
    refine Y_getR 1 fX6_24 (Nat.le_of_ble_eq_true rfl) rfl rfl (dk KX6_takeWord 3 rfl) ?_
    refine Y_getI fX6_28 (Nat.le_of_ble_eq_true rfl) rfl (dk KX6_takeWord 4 rfl) ?_
    refine X_icmp_ge 48 (dk KX6_takeWord 5 rfl) (by decide) (fun hc => ?_) (fun hc => ?_)
    · have h := hO_t hc h
      exact tX6_takeWord_48 σ h
    · have h := hO_f hc h
      refine X_aload_n 0 rfl (dk KX6_takeWord 6 rfl) ?_
      refine Y_getR 1 fX6_24 (Nat.le_of_ble_eq_true rfl) rfl rfl (dk KX6_takeWord 7 rfl) ?_
      refine X_aload_n 0 rfl (dk KX6_takeWord 8 rfl) ?_
      refine Y_getI fX6_9 (Nat.le_of_ble_eq_true rfl) rfl (dk KX6_takeWord 9 rfl) ?_
      refine Y_callVI wX6_33 (Nat.le_of_ble_eq_true rfl) rfl [.int (gi σ 40 1)] [] rfl rfl (Nat.le_of_ble_eq_true rfl) (Nat.le_of_ble_eq_true rfl) (dk KX6_takeWord 10 rfl) (fun Pc h => okX7_at _ _ Pc h) h (fun y1 σ2 e3 h => ?_)
      try dsimp only at h
      refine X_bipush (dk KX6_takeWord 11 rfl) 97 (by decide) ?_
      refine X_bipush (dk KX6_takeWord 12 rfl) 122 (by decide) ?_
      refine Y_callNI wX6_41 [.int y1, .int 97, .int 122] [] rfl rfl (Nat.le_of_ble_eq_true rfl) (Nat.le_of_ble_eq_true rfl) (dk KX6_takeWord 13 rfl) (fun Pc h => okX8_isWithin _ _ _ _ Pc h) h (fun y4 σ5 e6 h => ?_)
      try dsimp only at h
      refine X_if_eq 48 (dk KX6_takeWord 14 rfl) (by decide) (fun hc => ?_) (fun hc => ?_)
      · have h := hO_t hc h
        exact tX6_takeWord_48 σ5 h
      · have h := hO_f hc h
        refine X_aload_n 0 rfl (dk KX6_takeWord 15 rfl) ?_
        refine X_dup (dk KX6_takeWord 16 rfl) rfl ?_
        refine Y_getI fX6_9 (Nat.le_of_ble_eq_true rfl) rfl (dk KX6_takeWord 17 rfl) ?_
        refine X_iconst (dk KX6_takeWord 18 rfl) 1 (by decide) ?_
        refine X_iadd (dk KX6_takeWord 19 rfl) ?_
        refine Y_putI fX6_9 rfl (Nat.le_of_ble_eq_true rfl) rfl (dk KX6_takeWord 20 rfl) ?_
        refine X_goto 0 (dk KX6_takeWord 21 rfl) (by decide) ?_
        exact ih (sI σ5 40 1 ((gi σ5 40 1) + 1)) h
def fX6_takeWord  (σ : PS) : Option (PS) := fX6_takeWord_0 FU σ
set_option maxRecDepth 100000 in
set_option maxHeartbeats 4000000 in
theorem okX6_takeWord  (σ : PS) (P : PS → Prop) (h : hO (fX6_takeWord  σ) P) : CON g mX6_takeWord 6 0 0 [.ref 40] (HP σ) (pV P) := by
  refine CON.of (by decide) (by simp [lg_sl, Value.category]) ?_
  show X g _ _ _ _ _ 0 [(0, .ref 40)] [] _
  unfold fX6_takeWord at h
  exact tX6_takeWord_0 FU σ h

def fX6_advance_44  (σ : PS) : Option (PS) := (fX7_at (gi (sI σ 40 2 (gi σ 40 1)) 40 1) (sI σ 40 2 (gi σ 40 1))).bind (fun qy7 => (fun (y7 : Int32) (σ8 : PS) => (if y7 = (-1) then some (sI σ8 40 3 0) else (fX8_isWithin y7 97 122 σ8).bind (fun qy10 => (fun (y10 : Int32) (σ11 : PS) => (if y10 = 0 then (fX8_isWithin y7 48 57 σ11).bind (fun qy13 => (fun (y13 : Int32) (σ14 : PS) => (if y13 = 0 then (fX6_takeSign y7 σ14).bind (fun σ17 => some σ17) else (fX6_takeInt σ14).bind (fun σ20 => some σ20))) qy13.1 qy13.2) else (fX6_takeWord σ11).bind (fun σ23 => some σ23))) qy10.1 qy10.2))) qy7.1 qy7.2)
set_option maxRecDepth 100000 in
set_option maxHeartbeats 4000000 in
theorem tX6_advance_44 {P : PS → Prop}  (σ : PS) (h : hO (fX6_advance_44  σ) P) : X g mX6_advance 7 0 0 (pV P) 44 [(0, .ref 40)] [] (HP σ) := by
  unfold fX6_advance_44 at h
  refine X_aload_n 0 rfl (dk KX6_advance 20 rfl) ?_
  refine X_aload_n 0 rfl (dk KX6_advance 21 rfl) ?_
  refine Y_getI fX6_9 (Nat.le_of_ble_eq_true rfl) rfl (dk KX6_advance 22 rfl) ?_
  refine Y_putI fX6_15 rfl (Nat.le_of_ble_eq_true rfl) rfl (dk KX6_advance 23 rfl) ?_
  refine X_aload_n 0 rfl (dk KX6_advance 24 rfl) ?_
  refine Y_getR 1 fX6_24 (Nat.le_of_ble_eq_true rfl) rfl rfl (dk KX6_advance 25 rfl) ?_
  refine X_aload_n 0 rfl (dk KX6_advance 26 rfl) ?_
  refine Y_getI fX6_9 (Nat.le_of_ble_eq_true rfl) rfl (dk KX6_advance 27 rfl) ?_
  refine Y_callVI wX6_33 (Nat.le_of_ble_eq_true rfl) rfl [.int (gi (sI σ 40 2 (gi σ 40 1)) 40 1)] [] rfl rfl (Nat.le_of_ble_eq_true rfl) (Nat.le_of_ble_eq_true rfl) (dk KX6_advance 28 rfl) (fun Pc h => okX7_at _ _ Pc h) h (fun y7 σ8 e9 h => ?_)
  try dsimp only at h
  refine X_istore_n [(1, .int y7), (0, .ref 40)] (dk KX6_advance 29 rfl) (by decide) rfl ?_
  refine X_iload_n 0 rfl (dk KX6_advance 30 rfl) ?_
  refine X_iconst (dk KX6_advance 31 rfl) (-1) (by decide) ?_
  refine X_icmp_ne 77 (dk KX6_advance 32 rfl) (by decide) (fun hc => ?_) (fun hc => ?_)
  · have h := hO_f hc h
    refine X_iload_n 0 rfl (dk KX6_advance 37 rfl) ?_
    refine X_bipush (dk KX6_advance 38 rfl) 97 (by decide) ?_
    refine X_bipush (dk KX6_advance 39 rfl) 122 (by decide) ?_
    refine Y_callNI wX6_41 [.int y7, .int 97, .int 122] [] rfl rfl (Nat.le_of_ble_eq_true rfl) (Nat.le_of_ble_eq_true rfl) (dk KX6_advance 40 rfl) (fun Pc h => okX8_isWithin _ _ _ _ Pc h) h (fun y10 σ11 e12 h => ?_)
    try dsimp only at h
    refine X_if_eq 95 (dk KX6_advance 41 rfl) (by decide) (fun hc => ?_) (fun hc => ?_)
    · have h := hO_t hc h
      refine X_iload_n 0 rfl (dk KX6_advance 45 rfl) ?_
      refine X_bipush (dk KX6_advance 46 rfl) 48 (by decide) ?_
      refine X_bipush (dk KX6_advance 47 rfl) 57 (by decide) ?_
      refine Y_callNI wX6_41 [.int y7, .int 48, .int 57] [] rfl rfl (Nat.le_of_ble_eq_true rfl) (Nat.le_of_ble_eq_true rfl) (dk KX6_advance 48 rfl) (fun Pc h => okX8_isWithin _ _ _ _ Pc h) h (fun y13 σ14 e15 h => ?_)
      try dsimp only at h
      refine X_if_eq 113 (dk KX6_advance 49 rfl) (by decide) (fun hc => ?_) (fun hc => ?_)
      · have h := hO_t hc h
        refine X_aload_n 1 rfl (dk KX6_advance 53 rfl) ?_
        refine X_iload_n 0 rfl (dk KX6_advance 54 rfl) ?_
        refine Y_callVV wX6_51 (Nat.le_of_ble_eq_true rfl) rfl [.int y7] [] rfl rfl (Nat.le_of_ble_eq_true rfl) (Nat.le_of_ble_eq_true rfl) (dk KX6_advance 55 rfl) (fun Pc h => okX6_takeSign _ _ Pc h) h (fun σ17 e18 h => ?_)
        try dsimp only at h
        exact Y_vret (dk KX6_advance 56 rfl) rfl h
      · have h := hO_f hc h
        refine X_aload_n 1 rfl (dk KX6_advance 50 rfl) ?_
        refine Y_callVV wX6_48 (Nat.le_of_ble_eq_true rfl) rfl [] [] rfl rfl (Nat.le_of_ble_eq_true rfl) (Nat.le_of_ble_eq_true rfl) (dk KX6_advance 51 rfl) (fun Pc h => okX6_takeInt _ Pc h) h (fun σ20 e21 h => ?_)
        try dsimp only at h
        refine X_goto 118 (dk KX6_advance 52 rfl) (by decide) ?_
        exact Y_vret (dk KX6_advance 56 rfl) rfl h
    · have h := hO_f hc h
      refine X_aload_n 1 rfl (dk KX6_advance 42 rfl) ?_
      refine Y_callVV wX6_45 (Nat.le_of_ble_eq_true rfl) rfl [] [] rfl rfl (Nat.le_of_ble_eq_true rfl) (Nat.le_of_ble_eq_true rfl) (dk KX6_advance 43 rfl) (fun Pc h => okX6_takeWord _ Pc h) h (fun σ23 e24 h => ?_)
      try dsimp only at h
      refine X_goto 118 (dk KX6_advance 44 rfl) (by decide) ?_
      exact Y_vret (dk KX6_advance 56 rfl) rfl h
  · have h := hO_t hc h
    refine X_aload_n 1 rfl (dk KX6_advance 33 rfl) ?_
    refine X_iconst (dk KX6_advance 34 rfl) 0 (by decide) ?_
    refine Y_putI fX6_18 rfl (Nat.le_of_ble_eq_true rfl) rfl (dk KX6_advance 35 rfl) ?_
    refine X_goto 118 (dk KX6_advance 36 rfl) (by decide) ?_
    exact Y_vret (dk KX6_advance 56 rfl) rfl h
def fX6_advance_0 : Nat → PS → Option (PS)
  | 0, _ => none
  | n + 1, σ => (if (gi σ 1 1) ≤ (gi σ 40 1) then fX6_advance_44 σ else (fX7_at (gi σ 40 1) σ).bind (fun qy1 => (fun (y1 : Int32) (σ2 : PS) => (fX6_isBlank y1 σ2).bind (fun qy4 => (fun (y4 : Int32) (σ5 : PS) => (if y4 = 0 then fX6_advance_44 σ5 else fX6_advance_0 n (sI σ5 40 1 ((gi σ5 40 1) + 1)))) qy4.1 qy4.2)) qy1.1 qy1.2))
set_option maxRecDepth 100000 in
set_option maxHeartbeats 4000000 in
theorem tX6_advance_0 {P : PS → Prop} : ∀ (n : Nat)  (σ : PS), hO (fX6_advance_0 n  σ) P → X g mX6_advance 7 0 0 (pV P) 0 [(0, .ref 40)] [] (HP σ) := by
  intro n
  induction n with
  | zero =>
    intro  σ h
    rw [fX6_advance_0] at h
    exact (hO_none h).elim
  | succ n ih =>
    intro  σ h
    rw [fX6_advance_0] at h
    refine X_aload_n 0 rfl (dk KX6_advance 0 rfl) ?_
    refine Y_getI fX6_9 (Nat.le_of_ble_eq_true rfl) rfl (dk KX6_advance 1 rfl) ?_
    refine X_aload_n 0 rfl (dk KX6_advance 2 rfl) ?_
    refine Y_getR 1 fX6_24 (Nat.le_of_ble_eq_true rfl) rfl rfl (dk KX6_advance 3 rfl) ?_
    refine Y_getI fX6_28 (Nat.le_of_ble_eq_true rfl) rfl (dk KX6_advance 4 rfl) ?_
    refine X_icmp_ge 44 (dk KX6_advance 5 rfl) (by decide) (fun hc => ?_) (fun hc => ?_)
    · have h := hO_t hc h
      exact tX6_advance_44 σ h
    · have h := hO_f hc h
      refine X_aload_n 0 rfl (dk KX6_advance 6 rfl) ?_
      refine Y_getR 1 fX6_24 (Nat.le_of_ble_eq_true rfl) rfl rfl (dk KX6_advance 7 rfl) ?_
      refine X_aload_n 0 rfl (dk KX6_advance 8 rfl) ?_
      refine Y_getI fX6_9 (Nat.le_of_ble_eq_true rfl) rfl (dk KX6_advance 9 rfl) ?_
      refine Y_callVI wX6_33 (Nat.le_of_ble_eq_true rfl) rfl [.int (gi σ 40 1)] [] rfl rfl (Nat.le_of_ble_eq_true rfl) (Nat.le_of_ble_eq_true rfl) (dk KX6_advance 10 rfl) (fun Pc h => okX7_at _ _ Pc h) h (fun y1 σ2 e3 h => ?_)
      try dsimp only at h
      refine Y_callSI wX6_37 [.int y1] [] rfl rfl (Nat.le_of_ble_eq_true rfl) (Nat.le_of_ble_eq_true rfl) (dk KX6_advance 11 rfl) (fun Pc h => okX6_isBlank _ _ Pc h) h (fun y4 σ5 e6 h => ?_)
      try dsimp only at h
      refine X_if_eq 44 (dk KX6_advance 12 rfl) (by decide) (fun hc => ?_) (fun hc => ?_)
      · have h := hO_t hc h
        exact tX6_advance_44 σ5 h
      · have h := hO_f hc h
        refine X_aload_n 0 rfl (dk KX6_advance 13 rfl) ?_
        refine X_dup (dk KX6_advance 14 rfl) rfl ?_
        refine Y_getI fX6_9 (Nat.le_of_ble_eq_true rfl) rfl (dk KX6_advance 15 rfl) ?_
        refine X_iconst (dk KX6_advance 16 rfl) 1 (by decide) ?_
        refine X_iadd (dk KX6_advance 17 rfl) ?_
        refine Y_putI fX6_9 rfl (Nat.le_of_ble_eq_true rfl) rfl (dk KX6_advance 18 rfl) ?_
        refine X_goto 0 (dk KX6_advance 19 rfl) (by decide) ?_
        exact ih (sI σ5 40 1 ((gi σ5 40 1) + 1)) h
def fX6_advance  (σ : PS) : Option (PS) := fX6_advance_0 FU σ
set_option maxRecDepth 100000 in
set_option maxHeartbeats 4000000 in
theorem okX6_advance  (σ : PS) (P : PS → Prop) (h : hO (fX6_advance  σ) P) : CON g mX6_advance 7 0 0 [.ref 40] (HP σ) (pV P) := by
  refine CON.of (by decide) (by simp [lg_sl, Value.category]) ?_
  show X g _ _ _ _ _ 0 [(0, .ref 40)] [] _
  unfold fX6_advance at h
  exact tX6_advance_0 FU σ h

end G
