section G
variable {g : GP}
def fX5_clear (b : Nat)  (σ : PS) : Option (PS) := some (sI (sI σ b 7 0) b 8 0)
set_option maxRecDepth 100000 in
set_option maxHeartbeats 4000000 in
theorem okX5_clear {b : Nat} (hb : isBk b = true)  (σ : PS) (P : PS → Prop) (h : hO (fX5_clear b  σ) P) : CON g mX5_clear 0 0 0 [.ref b] (HP σ) (pV P) := by
  refine CON.of (by decide) (by simp [lg_sl, Value.category]) ?_
  show X g _ _ _ _ _ 0 [(0, .ref b)] [] _
  unfold fX5_clear at h
  refine X_aload_n 0 rfl (dk KX5_clear 0 rfl) ?_
  refine X_iconst (dk KX5_clear 1 rfl) 0 (by decide) ?_
  refine Y_putI fX5_33 rfl (bk_lt hb) (bk_ob hb) (dk KX5_clear 2 rfl) ?_
  refine X_aload_n 0 rfl (dk KX5_clear 3 rfl) ?_
  refine X_iconst (dk KX5_clear 4 rfl) 0 (by decide) ?_
  refine Y_putI fX5_37 rfl (bk_lt hb) (bk_ob hb) (dk KX5_clear 5 rfl) ?_
  exact Y_vret (dk KX5_clear 6 rfl) rfl h

def fX5_write (b : Nat) (a1 : Int32) (σ : PS) : Option (PS) := (if 400 ≤ (gi σ b 8) then some σ else gd (inb (gi σ b 8) 400) (some (sI (sI σ (b + 6) ((gi σ b 8) : Int32).toNatClampNeg a1) b 8 ((gi (sI σ (b + 6) ((gi σ b 8) : Int32).toNatClampNeg a1) b 8) + 1))))
set_option maxRecDepth 100000 in
set_option maxHeartbeats 4000000 in
theorem okX5_write {b : Nat} (hb : isBk b = true) (a1 : Int32) (σ : PS) (P : PS → Prop) (h : hO (fX5_write b a1 σ) P) : CON g mX5_write 0 0 0 [.ref b, .int a1] (HP σ) (pV P) := by
  refine CON.of (by decide) (by simp [lg_sl, Value.category]) ?_
  show X g _ _ _ _ _ 0 [(0, .ref b), (1, .int a1)] [] _
  unfold fX5_write at h
  refine X_aload_n 0 rfl (dk KX5_write 0 rfl) ?_
  refine Y_getI fX5_37 (bk_lt hb) (bk_ob hb) (dk KX5_write 1 rfl) ?_
  refine X_sipush (dk KX5_write 2 rfl) 400 (by decide) ?_
  refine X_icmp_ge 30 (dk KX5_write 3 rfl) (by decide) (fun hc => ?_) (fun hc => ?_)
  · have h := hO_t hc h
    exact Y_vret (dk KX5_write 16 rfl) rfl h
  · have h := hO_f hc h
    refine X_aload_n 0 rfl (dk KX5_write 4 rfl) ?_
    refine Y_getR (b + 6) fX5_27 (bk_lt hb) (bk_ob hb) (bk_rf hb _ _ 5 (by decide)) (dk KX5_write 5 rfl) ?_
    refine X_aload_n 0 rfl (dk KX5_write 6 rfl) ?_
    refine Y_getI fX5_37 (bk_lt hb) (bk_ob hb) (dk KX5_write 7 rfl) ?_
    refine X_iload_n 1 rfl (dk KX5_write 8 rfl) ?_
    refine Y_iast (bka_lt hb 6 (by decide)) (bka_ob hb 6 400 rfl rfl) (dk KX5_write 9 rfl) h (fun hi1 h => ?_)
    refine X_aload_n 0 rfl (dk KX5_write 10 rfl) ?_
    refine X_dup (dk KX5_write 11 rfl) rfl ?_
    refine Y_getI fX5_37 (bk_lt hb) (bk_ob hb) (dk KX5_write 12 rfl) ?_
    refine X_iconst (dk KX5_write 13 rfl) 1 (by decide) ?_
    refine X_iadd (dk KX5_write 14 rfl) ?_
    refine Y_putI fX5_37 rfl (bk_lt hb) (bk_ob hb) (dk KX5_write 15 rfl) ?_
    exact Y_vret (dk KX5_write 16 rfl) rfl h

def fX5_beginCondition (b : Nat)  (σ : PS) : Option (PS) := (if 20 ≤ (gi σ b 7) then some σ else gd (inb (gi σ b 7) 20) (some (sI σ (b + 4) ((gi σ b 7) : Int32).toNatClampNeg (gi σ b 8))))
set_option maxRecDepth 100000 in
set_option maxHeartbeats 4000000 in
theorem okX5_beginCondition {b : Nat} (hb : isBk b = true)  (σ : PS) (P : PS → Prop) (h : hO (fX5_beginCondition b  σ) P) : CON g mX5_beginCondition 0 0 0 [.ref b] (HP σ) (pV P) := by
  refine CON.of (by decide) (by simp [lg_sl, Value.category]) ?_
  show X g _ _ _ _ _ 0 [(0, .ref b)] [] _
  unfold fX5_beginCondition at h
  refine X_aload_n 0 rfl (dk KX5_beginCondition 0 rfl) ?_
  refine Y_getI fX5_33 (bk_lt hb) (bk_ob hb) (dk KX5_beginCondition 1 rfl) ?_
  refine X_bipush (dk KX5_beginCondition 2 rfl) 20 (by decide) ?_
  refine X_icmp_ge 22 (dk KX5_beginCondition 3 rfl) (by decide) (fun hc => ?_) (fun hc => ?_)
  · have h := hO_t hc h
    exact Y_vret (dk KX5_beginCondition 11 rfl) rfl h
  · have h := hO_f hc h
    refine X_aload_n 0 rfl (dk KX5_beginCondition 4 rfl) ?_
    refine Y_getR (b + 4) fX5_21 (bk_lt hb) (bk_ob hb) (bk_rf hb _ _ 3 (by decide)) (dk KX5_beginCondition 5 rfl) ?_
    refine X_aload_n 0 rfl (dk KX5_beginCondition 6 rfl) ?_
    refine Y_getI fX5_33 (bk_lt hb) (bk_ob hb) (dk KX5_beginCondition 7 rfl) ?_
    refine X_aload_n 0 rfl (dk KX5_beginCondition 8 rfl) ?_
    refine Y_getI fX5_37 (bk_lt hb) (bk_ob hb) (dk KX5_beginCondition 9 rfl) ?_
    refine Y_iast (bka_lt hb 4 (by decide)) (bka_ob hb 4 20 rfl rfl) (dk KX5_beginCondition 10 rfl) h (fun hi1 h => ?_)
    exact Y_vret (dk KX5_beginCondition 11 rfl) rfl h

def fX5_endRule_35 (b : Nat)  (σ : PS) : Option (PS) := gd (inb (gi σ b 7) 20) (some (sI (sI σ (b + 5) ((gi σ b 7) : Int32).toNatClampNeg (gi σ b 8)) b 7 ((gi (sI σ (b + 5) ((gi σ b 7) : Int32).toNatClampNeg (gi σ b 8)) b 7) + 1)))
set_option maxRecDepth 100000 in
set_option maxHeartbeats 4000000 in
theorem tX5_endRule_35 {b : Nat} (hb : isBk b = true) {P : PS → Prop}  (σ : PS) (h : hO (fX5_endRule_35 b  σ) P) : X g mX5_endRule 0 0 0 (pV P) 35 [(0, .ref b)] [] (HP σ) := by
  unfold fX5_endRule_35 at h
  refine X_aload_n 0 rfl (dk KX5_endRule 18 rfl) ?_
  refine Y_getR (b + 5) fX5_24 (bk_lt hb) (bk_ob hb) (bk_rf hb _ _ 4 (by decide)) (dk KX5_endRule 19 rfl) ?_
  refine X_aload_n 0 rfl (dk KX5_endRule 20 rfl) ?_
  refine Y_getI fX5_33 (bk_lt hb) (bk_ob hb) (dk KX5_endRule 21 rfl) ?_
  refine X_aload_n 0 rfl (dk KX5_endRule 22 rfl) ?_
  refine Y_getI fX5_37 (bk_lt hb) (bk_ob hb) (dk KX5_endRule 23 rfl) ?_
  refine Y_iast (bka_lt hb 5 (by decide)) (bka_ob hb 5 20 rfl rfl) (dk KX5_endRule 24 rfl) h (fun hi3 h => ?_)
  refine X_aload_n 0 rfl (dk KX5_endRule 25 rfl) ?_
  refine X_dup (dk KX5_endRule 26 rfl) rfl ?_
  refine Y_getI fX5_33 (bk_lt hb) (bk_ob hb) (dk KX5_endRule 27 rfl) ?_
  refine X_iconst (dk KX5_endRule 28 rfl) 1 (by decide) ?_
  refine X_iadd (dk KX5_endRule 29 rfl) ?_
  refine Y_putI fX5_33 rfl (bk_lt hb) (bk_ob hb) (dk KX5_endRule 30 rfl) ?_
  exact Y_vret (dk KX5_endRule 31 rfl) rfl h
def fX5_endRule (b : Nat)  (σ : PS) : Option (PS) := (if 20 ≤ (gi σ b 7) then some σ else gd (inb (gi σ b 7) 20) ((if (gi σ (b + 4) ((gi σ b 7) : Int32).toNatClampNeg) = (-1) then gd (inb (gi σ b 7) 20) (fX5_endRule_35 b (sI σ (b + 4) ((gi σ b 7) : Int32).toNatClampNeg (gi σ b 8))) else fX5_endRule_35 b σ)))
set_option maxRecDepth 100000 in
set_option maxHeartbeats 4000000 in
theorem okX5_endRule {b : Nat} (hb : isBk b = true)  (σ : PS) (P : PS → Prop) (h : hO (fX5_endRule b  σ) P) : CON g mX5_endRule 0 0 0 [.ref b] (HP σ) (pV P) := by
  refine CON.of (by decide) (by simp [lg_sl, Value.category]) ?_
  show X g _ _ _ _ _ 0 [(0, .ref b)] [] _
  unfold fX5_endRule at h
  refine X_aload_n 0 rfl (dk KX5_endRule 0 rfl) ?_
  refine Y_getI fX5_33 (bk_lt hb) (bk_ob hb) (dk KX5_endRule 1 rfl) ?_
  refine X_bipush (dk KX5_endRule 2 rfl) 20 (by decide) ?_
  refine X_icmp_ge 58 (dk KX5_endRule 3 rfl) (by decide) (fun hc => ?_) (fun hc => ?_)
  · have h := hO_t hc h
    exact Y_vret (dk KX5_endRule 31 rfl) rfl h
  · have h := hO_f hc h
    refine X_aload_n 0 rfl (dk KX5_endRule 4 rfl) ?_
    refine Y_getR (b + 4) fX5_21 (bk_lt hb) (bk_ob hb) (bk_rf hb _ _ 3 (by decide)) (dk KX5_endRule 5 rfl) ?_
    refine X_aload_n 0 rfl (dk KX5_endRule 6 rfl) ?_
    refine Y_getI fX5_33 (bk_lt hb) (bk_ob hb) (dk KX5_endRule 7 rfl) ?_
    refine Y_iald (bka_lt hb 4 (by decide)) (bka_ob hb 4 20 rfl rfl) (dk KX5_endRule 8 rfl) h (fun hi1 h => ?_)
    refine X_iconst (dk KX5_endRule 9 rfl) (-1) (by decide) ?_
    refine X_icmp_ne 35 (dk KX5_endRule 10 rfl) (by decide) (fun hc => ?_) (fun hc => ?_)
    · have h := hO_f hc h
      exact tX5_endRule_35 hb σ h
    · have h := hO_t hc h
      refine X_aload_n 0 rfl (dk KX5_endRule 11 rfl) ?_
      refine Y_getR (b + 4) fX5_21 (bk_lt hb) (bk_ob hb) (bk_rf hb _ _ 3 (by decide)) (dk KX5_endRule 12 rfl) ?_
      refine X_aload_n 0 rfl (dk KX5_endRule 13 rfl) ?_
      refine Y_getI fX5_33 (bk_lt hb) (bk_ob hb) (dk KX5_endRule 14 rfl) ?_
      refine X_aload_n 0 rfl (dk KX5_endRule 15 rfl) ?_
      refine Y_getI fX5_37 (bk_lt hb) (bk_ob hb) (dk KX5_endRule 16 rfl) ?_
      refine Y_iast (bka_lt hb 4 (by decide)) (bka_ob hb 4 20 rfl rfl) (dk KX5_endRule 17 rfl) h (fun hi2 h => ?_)
      exact tX5_endRule_35 hb (sI σ (b + 4) ((gi σ b 7) : Int32).toNatClampNeg (gi σ b 8)) h

def fX5_isInBar (b : Nat)  (σ : PS) : Option (Int32 × PS) := (if 20 ≤ (gi σ b 7) then some (0, σ) else gd (inb (gi σ b 7) 20) ((if (gi σ (b + 1) ((gi σ b 7) : Int32).toNatClampNeg) = 5 then some (1, σ) else some (0, σ))))
set_option maxRecDepth 100000 in
set_option maxHeartbeats 4000000 in
theorem okX5_isInBar {b : Nat} (hb : isBk b = true)  (σ : PS) (P : Int32 × PS → Prop) (h : hO (fX5_isInBar b  σ) P) : CON g mX5_isInBar 0 0 0 [.ref b] (HP σ) (pI P) := by
  refine CON.of (by decide) (by simp [lg_sl, Value.category]) ?_
  show X g _ _ _ _ _ 0 [(0, .ref b)] [] _
  unfold fX5_isInBar at h
  refine X_aload_n 0 rfl (dk KX5_isInBar 0 rfl) ?_
  refine Y_getI fX5_33 (bk_lt hb) (bk_ob hb) (dk KX5_isInBar 1 rfl) ?_
  refine X_bipush (dk KX5_isInBar 2 rfl) 20 (by decide) ?_
  refine X_icmp_ge 26 (dk KX5_isInBar 3 rfl) (by decide) (fun hc => ?_) (fun hc => ?_)
  · have h := hO_t hc h
    refine X_iconst (dk KX5_isInBar 13 rfl) 0 (by decide) ?_
    exact Y_zret (dk KX5_isInBar 14 rfl) rfl (by decide) h
  · have h := hO_f hc h
    refine X_aload_n 0 rfl (dk KX5_isInBar 4 rfl) ?_
    refine Y_getR (b + 1) fX5_9 (bk_lt hb) (bk_ob hb) (bk_rf hb _ _ 0 (by decide)) (dk KX5_isInBar 5 rfl) ?_
    refine X_aload_n 0 rfl (dk KX5_isInBar 6 rfl) ?_
    refine Y_getI fX5_33 (bk_lt hb) (bk_ob hb) (dk KX5_isInBar 7 rfl) ?_
    refine Y_iald (bka_lt hb 1 (by decide)) (bka_ob hb 1 20 rfl rfl) (dk KX5_isInBar 8 rfl) h (fun hi1 h => ?_)
    refine X_iconst (dk KX5_isInBar 9 rfl) 5 (by decide) ?_
    refine X_icmp_ne 26 (dk KX5_isInBar 10 rfl) (by decide) (fun hc => ?_) (fun hc => ?_)
    · have h := hO_f hc h
      refine X_iconst (dk KX5_isInBar 13 rfl) 0 (by decide) ?_
      exact Y_zret (dk KX5_isInBar 14 rfl) rfl (by decide) h
    · have h := hO_t hc h
      refine X_iconst (dk KX5_isInBar 11 rfl) 1 (by decide) ?_
      refine X_goto 27 (dk KX5_isInBar 12 rfl) (by decide) ?_
      exact Y_zret (dk KX5_isInBar 14 rfl) rfl (by decide) h

def fX5_setLord (b : Nat) (a1 : Int32) (σ : PS) : Option (PS) := (if 20 ≤ (gi σ b 7) then some σ else gd (inb (gi σ b 7) 20) (some (sI σ (b + 2) ((gi σ b 7) : Int32).toNatClampNeg a1)))
set_option maxRecDepth 100000 in
set_option maxHeartbeats 4000000 in
theorem okX5_setLord {b : Nat} (hb : isBk b = true) (a1 : Int32) (σ : PS) (P : PS → Prop) (h : hO (fX5_setLord b a1 σ) P) : CON g mX5_setLord 0 0 0 [.ref b, .int a1] (HP σ) (pV P) := by
  refine CON.of (by decide) (by simp [lg_sl, Value.category]) ?_
  show X g _ _ _ _ _ 0 [(0, .ref b), (1, .int a1)] [] _
  unfold fX5_setLord at h
  refine X_aload_n 0 rfl (dk KX5_setLord 0 rfl) ?_
  refine Y_getI fX5_33 (bk_lt hb) (bk_ob hb) (dk KX5_setLord 1 rfl) ?_
  refine X_bipush (dk KX5_setLord 2 rfl) 20 (by decide) ?_
  refine X_icmp_ge 19 (dk KX5_setLord 3 rfl) (by decide) (fun hc => ?_) (fun hc => ?_)
  · have h := hO_t hc h
    exact Y_vret (dk KX5_setLord 10 rfl) rfl h
  · have h := hO_f hc h
    refine X_aload_n 0 rfl (dk KX5_setLord 4 rfl) ?_
    refine Y_getR (b + 2) fX5_15 (bk_lt hb) (bk_ob hb) (bk_rf hb _ _ 1 (by decide)) (dk KX5_setLord 5 rfl) ?_
    refine X_aload_n 0 rfl (dk KX5_setLord 6 rfl) ?_
    refine Y_getI fX5_33 (bk_lt hb) (bk_ob hb) (dk KX5_setLord 7 rfl) ?_
    refine X_iload_n 1 rfl (dk KX5_setLord 8 rfl) ?_
    refine Y_iast (bka_lt hb 2 (by decide)) (bka_ob hb 2 20 rfl rfl) (dk KX5_setLord 9 rfl) h (fun hi1 h => ?_)
    exact Y_vret (dk KX5_setLord 10 rfl) rfl h

def fX5_beginRule (b : Nat) (a1 : Int32) (σ : PS) : Option (PS) := (if 20 ≤ (gi σ b 7) then some σ else gd (inb (gi σ b 7) 20) (gd (inb (gi (sI σ (b + 1) ((gi σ b 7) : Int32).toNatClampNeg a1) b 7) 20) (gd (inb (gi (sI (sI σ (b + 1) ((gi σ b 7) : Int32).toNatClampNeg a1) (b + 2) ((gi (sI σ (b + 1) ((gi σ b 7) : Int32).toNatClampNeg a1) b 7) : Int32).toNatClampNeg 0) b 7) 20) (gd (inb (gi (sI (sI (sI σ (b + 1) ((gi σ b 7) : Int32).toNatClampNeg a1) (b + 2) ((gi (sI σ (b + 1) ((gi σ b 7) : Int32).toNatClampNeg a1) b 7) : Int32).toNatClampNeg 0) (b + 3) ((gi (sI (sI σ (b + 1) ((gi σ b 7) : Int32).toNatClampNeg a1) (b + 2) ((gi (sI σ (b + 1) ((gi σ b 7) : Int32).toNatClampNeg a1) b 7) : Int32).toNatClampNeg 0) b 7) : Int32).toNatClampNeg (gi (sI (sI σ (b + 1) ((gi σ b 7) : Int32).toNatClampNeg a1) (b + 2) ((gi (sI σ (b + 1) ((gi σ b 7) : Int32).toNatClampNeg a1) b 7) : Int32).toNatClampNeg 0) b 8)) b 7) 20) (some (sI (sI (sI (sI σ (b + 1) ((gi σ b 7) : Int32).toNatClampNeg a1) (b + 2) ((gi (sI σ (b + 1) ((gi σ b 7) : Int32).toNatClampNeg a1) b 7) : Int32).toNatClampNeg 0) (b + 3) ((gi (sI (sI σ (b + 1) ((gi σ b 7) : Int32).toNatClampNeg a1) (b + 2) ((gi (sI σ (b + 1) ((gi σ b 7) : Int32).toNatClampNeg a1) b 7) : Int32).toNatClampNeg 0) b 7) : Int32).toNatClampNeg (gi (sI (sI σ (b + 1) ((gi σ b 7) : Int32).toNatClampNeg a1) (b + 2) ((gi (sI σ (b + 1) ((gi σ b 7) : Int32).toNatClampNeg a1) b 7) : Int32).toNatClampNeg 0) b 8)) (b + 4) ((gi (sI (sI (sI σ (b + 1) ((gi σ b 7) : Int32).toNatClampNeg a1) (b + 2) ((gi (sI σ (b + 1) ((gi σ b 7) : Int32).toNatClampNeg a1) b 7) : Int32).toNatClampNeg 0) (b + 3) ((gi (sI (sI σ (b + 1) ((gi σ b 7) : Int32).toNatClampNeg a1) (b + 2) ((gi (sI σ (b + 1) ((gi σ b 7) : Int32).toNatClampNeg a1) b 7) : Int32).toNatClampNeg 0) b 7) : Int32).toNatClampNeg (gi (sI (sI σ (b + 1) ((gi σ b 7) : Int32).toNatClampNeg a1) (b + 2) ((gi (sI σ (b + 1) ((gi σ b 7) : Int32).toNatClampNeg a1) b 7) : Int32).toNatClampNeg 0) b 8)) b 7) : Int32).toNatClampNeg (-1)))))))
set_option maxRecDepth 100000 in
set_option maxHeartbeats 4000000 in
theorem okX5_beginRule {b : Nat} (hb : isBk b = true) (a1 : Int32) (σ : PS) (P : PS → Prop) (h : hO (fX5_beginRule b a1 σ) P) : CON g mX5_beginRule 0 0 0 [.ref b, .int a1] (HP σ) (pV P) := by
  refine CON.of (by decide) (by simp [lg_sl, Value.category]) ?_
  show X g _ _ _ _ _ 0 [(0, .ref b), (1, .int a1)] [] _
  unfold fX5_beginRule at h
  refine X_aload_n 0 rfl (dk KX5_beginRule 0 rfl) ?_
  refine Y_getI fX5_33 (bk_lt hb) (bk_ob hb) (dk KX5_beginRule 1 rfl) ?_
  refine X_bipush (dk KX5_beginRule 2 rfl) 20 (by decide) ?_
  refine X_icmp_ge 52 (dk KX5_beginRule 3 rfl) (by decide) (fun hc => ?_) (fun hc => ?_)
  · have h := hO_t hc h
    exact Y_vret (dk KX5_beginRule 29 rfl) rfl h
  · have h := hO_f hc h
    refine X_aload_n 0 rfl (dk KX5_beginRule 4 rfl) ?_
    refine Y_getR (b + 1) fX5_9 (bk_lt hb) (bk_ob hb) (bk_rf hb _ _ 0 (by decide)) (dk KX5_beginRule 5 rfl) ?_
    refine X_aload_n 0 rfl (dk KX5_beginRule 6 rfl) ?_
    refine Y_getI fX5_33 (bk_lt hb) (bk_ob hb) (dk KX5_beginRule 7 rfl) ?_
    refine X_iload_n 1 rfl (dk KX5_beginRule 8 rfl) ?_
    refine Y_iast (bka_lt hb 1 (by decide)) (bka_ob hb 1 20 rfl rfl) (dk KX5_beginRule 9 rfl) h (fun hi1 h => ?_)
    refine X_aload_n 0 rfl (dk KX5_beginRule 10 rfl) ?_
    refine Y_getR (b + 2) fX5_15 (bk_lt hb) (bk_ob hb) (bk_rf hb _ _ 1 (by decide)) (dk KX5_beginRule 11 rfl) ?_
    refine X_aload_n 0 rfl (dk KX5_beginRule 12 rfl) ?_
    refine Y_getI fX5_33 (bk_lt hb) (bk_ob hb) (dk KX5_beginRule 13 rfl) ?_
    refine X_iconst (dk KX5_beginRule 14 rfl) 0 (by decide) ?_
    refine Y_iast (bka_lt hb 2 (by decide)) (bka_ob hb 2 20 rfl rfl) (dk KX5_beginRule 15 rfl) h (fun hi2 h => ?_)
    refine X_aload_n 0 rfl (dk KX5_beginRule 16 rfl) ?_
    refine Y_getR (b + 3) fX5_18 (bk_lt hb) (bk_ob hb) (bk_rf hb _ _ 2 (by decide)) (dk KX5_beginRule 17 rfl) ?_
    refine X_aload_n 0 rfl (dk KX5_beginRule 18 rfl) ?_
    refine Y_getI fX5_33 (bk_lt hb) (bk_ob hb) (dk KX5_beginRule 19 rfl) ?_
    refine X_aload_n 0 rfl (dk KX5_beginRule 20 rfl) ?_
    refine Y_getI fX5_37 (bk_lt hb) (bk_ob hb) (dk KX5_beginRule 21 rfl) ?_
    refine Y_iast (bka_lt hb 3 (by decide)) (bka_ob hb 3 20 rfl rfl) (dk KX5_beginRule 22 rfl) h (fun hi3 h => ?_)
    refine X_aload_n 0 rfl (dk KX5_beginRule 23 rfl) ?_
    refine Y_getR (b + 4) fX5_21 (bk_lt hb) (bk_ob hb) (bk_rf hb _ _ 3 (by decide)) (dk KX5_beginRule 24 rfl) ?_
    refine X_aload_n 0 rfl (dk KX5_beginRule 25 rfl) ?_
    refine Y_getI fX5_33 (bk_lt hb) (bk_ob hb) (dk KX5_beginRule 26 rfl) ?_
    refine X_iconst (dk KX5_beginRule 27 rfl) (-1) (by decide) ?_
    refine Y_iast (bka_lt hb 4 (by decide)) (bka_ob hb 4 20 rfl rfl) (dk KX5_beginRule 28 rfl) h (fun hi4 h => ?_)
    exact Y_vret (dk KX5_beginRule 29 rfl) rfl h

def fX5_apply (a0 : Int32) (a1 : Int32) (a2 : Int32) (σ : PS) : Option (Int32 × PS) := (if a0 = 8 then some ((a1 &&& a2), σ) else (if a0 = 9 then some ((a1 ||| a2), σ) else (if a0 = 10 then some ((a1 ||| a2), σ) else (if a0 = 11 then some ((a1 ||| a2), σ) else (if a0 = 12 then some ((a1 ||| a2), σ) else (if a0 = 13 then some ((a1 ||| a2), σ) else (if a0 = 14 then some ((a1 ||| a2), σ) else (if a0 = 15 then some ((a1 ||| a2), σ) else (if a0 = 16 then some ((a1 ||| a2), σ) else (if a0 = 17 then some ((a1 ||| a2), σ) else (if a0 = 18 then some ((a1 + a2), σ) else (if a0 = 19 then some ((a1 - a2), σ) else (if a0 = 20 then some ((a1 * a2), σ) else (if a0 = 21 then (if a1 = a2 then some (1, σ) else some (0, σ)) else (if a0 = 22 then (if a1 = a2 then some (0, σ) else some (1, σ)) else (if a0 = 23 then (if a2 ≤ a1 then some (0, σ) else some (1, σ)) else (if a0 = 24 then (if a2 < a1 then some (0, σ) else some (1, σ)) else some ((a1 ||| a2), σ))))))))))))))))))
set_option maxRecDepth 100000 in
set_option maxHeartbeats 4000000 in
theorem okX5_apply (a0 : Int32) (a1 : Int32) (a2 : Int32) (σ : PS) (P : Int32 × PS → Prop) (h : hO (fX5_apply a0 a1 a2 σ) P) : CON g mX5_apply 0 0 0 [.int a0, .int a1, .int a2] (HP σ) (pI P) := by
  refine CON.of (by decide) (by simp [lg_sl, Value.category]) ?_
  show X g _ _ _ _ _ 0 [(0, .int a0), (1, .int a1), (2, .int a2)] [] _
  unfold fX5_apply at h
  refine X_iload_n 0 rfl (dk KX5_apply 0 rfl) ?_
  by_cases hs8 : a0 = (8 : Int32)
  · have h := hO_t hs8 h
    refine Y_tab 8 hs8 140 (dk KX5_apply 1 rfl) (by decide) (by decide) rfl (by decide) ?_
    refine X_iload_n 1 rfl (dk KX5_apply 42 rfl) ?_
    refine X_iload_n 2 rfl (dk KX5_apply 43 rfl) ?_
    refine X_iand (dk KX5_apply 44 rfl) ?_
    exact Y_iret (dk KX5_apply 45 rfl) rfl h
  have h := hO_f hs8 h
  by_cases hs9 : a0 = (9 : Int32)
  · have h := hO_t hs9 h
    refine Y_tab 9 hs9 144 (dk KX5_apply 1 rfl) (by decide) (by decide) rfl (by decide) ?_
    refine X_iload_n 1 rfl (dk KX5_apply 46 rfl) ?_
    refine X_iload_n 2 rfl (dk KX5_apply 47 rfl) ?_
    refine X_ior (dk KX5_apply 48 rfl) ?_
    exact Y_iret (dk KX5_apply 49 rfl) rfl h
  have h := hO_f hs9 h
  by_cases hs10 : a0 = (10 : Int32)
  · have h := hO_t hs10 h
    refine Y_tab 10 hs10 144 (dk KX5_apply 1 rfl) (by decide) (by decide) rfl (by decide) ?_
    refine X_iload_n 1 rfl (dk KX5_apply 46 rfl) ?_
    refine X_iload_n 2 rfl (dk KX5_apply 47 rfl) ?_
    refine X_ior (dk KX5_apply 48 rfl) ?_
    exact Y_iret (dk KX5_apply 49 rfl) rfl h
  have h := hO_f hs10 h
  by_cases hs11 : a0 = (11 : Int32)
  · have h := hO_t hs11 h
    refine Y_tab 11 hs11 144 (dk KX5_apply 1 rfl) (by decide) (by decide) rfl (by decide) ?_
    refine X_iload_n 1 rfl (dk KX5_apply 46 rfl) ?_
    refine X_iload_n 2 rfl (dk KX5_apply 47 rfl) ?_
    refine X_ior (dk KX5_apply 48 rfl) ?_
    exact Y_iret (dk KX5_apply 49 rfl) rfl h
  have h := hO_f hs11 h
  by_cases hs12 : a0 = (12 : Int32)
  · have h := hO_t hs12 h
    refine Y_tab 12 hs12 144 (dk KX5_apply 1 rfl) (by decide) (by decide) rfl (by decide) ?_
    refine X_iload_n 1 rfl (dk KX5_apply 46 rfl) ?_
    refine X_iload_n 2 rfl (dk KX5_apply 47 rfl) ?_
    refine X_ior (dk KX5_apply 48 rfl) ?_
    exact Y_iret (dk KX5_apply 49 rfl) rfl h
  have h := hO_f hs12 h
  by_cases hs13 : a0 = (13 : Int32)
  · have h := hO_t hs13 h
    refine Y_tab 13 hs13 144 (dk KX5_apply 1 rfl) (by decide) (by decide) rfl (by decide) ?_
    refine X_iload_n 1 rfl (dk KX5_apply 46 rfl) ?_
    refine X_iload_n 2 rfl (dk KX5_apply 47 rfl) ?_
    refine X_ior (dk KX5_apply 48 rfl) ?_
    exact Y_iret (dk KX5_apply 49 rfl) rfl h
  have h := hO_f hs13 h
  by_cases hs14 : a0 = (14 : Int32)
  · have h := hO_t hs14 h
    refine Y_tab 14 hs14 144 (dk KX5_apply 1 rfl) (by decide) (by decide) rfl (by decide) ?_
    refine X_iload_n 1 rfl (dk KX5_apply 46 rfl) ?_
    refine X_iload_n 2 rfl (dk KX5_apply 47 rfl) ?_
    refine X_ior (dk KX5_apply 48 rfl) ?_
    exact Y_iret (dk KX5_apply 49 rfl) rfl h
  have h := hO_f hs14 h
  by_cases hs15 : a0 = (15 : Int32)
  · have h := hO_t hs15 h
    refine Y_tab 15 hs15 144 (dk KX5_apply 1 rfl) (by decide) (by decide) rfl (by decide) ?_
    refine X_iload_n 1 rfl (dk KX5_apply 46 rfl) ?_
    refine X_iload_n 2 rfl (dk KX5_apply 47 rfl) ?_
    refine X_ior (dk KX5_apply 48 rfl) ?_
    exact Y_iret (dk KX5_apply 49 rfl) rfl h
  have h := hO_f hs15 h
  by_cases hs16 : a0 = (16 : Int32)
  · have h := hO_t hs16 h
    refine Y_tab 16 hs16 144 (dk KX5_apply 1 rfl) (by decide) (by decide) rfl (by decide) ?_
    refine X_iload_n 1 rfl (dk KX5_apply 46 rfl) ?_
    refine X_iload_n 2 rfl (dk KX5_apply 47 rfl) ?_
    refine X_ior (dk KX5_apply 48 rfl) ?_
    exact Y_iret (dk KX5_apply 49 rfl) rfl h
  have h := hO_f hs16 h
  by_cases hs17 : a0 = (17 : Int32)
  · have h := hO_t hs17 h
    refine Y_tab 17 hs17 144 (dk KX5_apply 1 rfl) (by decide) (by decide) rfl (by decide) ?_
    refine X_iload_n 1 rfl (dk KX5_apply 46 rfl) ?_
    refine X_iload_n 2 rfl (dk KX5_apply 47 rfl) ?_
    refine X_ior (dk KX5_apply 48 rfl) ?_
    exact Y_iret (dk KX5_apply 49 rfl) rfl h
  have h := hO_f hs17 h
  by_cases hs18 : a0 = (18 : Int32)
  · have h := hO_t hs18 h
    refine Y_tab 18 hs18 84 (dk KX5_apply 1 rfl) (by decide) (by decide) rfl (by decide) ?_
    refine X_iload_n 1 rfl (dk KX5_apply 2 rfl) ?_
    refine X_iload_n 2 rfl (dk KX5_apply 3 rfl) ?_
    refine X_iadd (dk KX5_apply 4 rfl) ?_
    exact Y_iret (dk KX5_apply 5 rfl) rfl h
  have h := hO_f hs18 h
  by_cases hs19 : a0 = (19 : Int32)
  · have h := hO_t hs19 h
    refine Y_tab 19 hs19 88 (dk KX5_apply 1 rfl) (by decide) (by decide) rfl (by decide) ?_
    refine X_iload_n 1 rfl (dk KX5_apply 6 rfl) ?_
    refine X_iload_n 2 rfl (dk KX5_apply 7 rfl) ?_
    refine X_isub (dk KX5_apply 8 rfl) ?_
    exact Y_iret (dk KX5_apply 9 rfl) rfl h
  have h := hO_f hs19 h
  by_cases hs20 : a0 = (20 : Int32)
  · have h := hO_t hs20 h
    refine Y_tab 20 hs20 92 (dk KX5_apply 1 rfl) (by decide) (by decide) rfl (by decide) ?_
    refine X_iload_n 1 rfl (dk KX5_apply 10 rfl) ?_
    refine X_iload_n 2 rfl (dk KX5_apply 11 rfl) ?_
    refine X_imul (dk KX5_apply 12 rfl) ?_
    exact Y_iret (dk KX5_apply 13 rfl) rfl h
  have h := hO_f hs20 h
  by_cases hs21 : a0 = (21 : Int32)
  · have h := hO_t hs21 h
    refine Y_tab 21 hs21 96 (dk KX5_apply 1 rfl) (by decide) (by decide) rfl (by decide) ?_
    refine X_iload_n 1 rfl (dk KX5_apply 14 rfl) ?_
    refine X_iload_n 2 rfl (dk KX5_apply 15 rfl) ?_
    refine X_icmp_ne 105 (dk KX5_apply 16 rfl) (by decide) (fun hc => ?_) (fun hc => ?_)
    · have h := hO_f hc h
      refine X_iconst (dk KX5_apply 19 rfl) 0 (by decide) ?_
      exact Y_iret (dk KX5_apply 20 rfl) rfl h
    · have h := hO_t hc h
      refine X_iconst (dk KX5_apply 17 rfl) 1 (by decide) ?_
      refine X_goto 106 (dk KX5_apply 18 rfl) (by decide) ?_
      exact Y_iret (dk KX5_apply 20 rfl) rfl h
  have h := hO_f hs21 h
  by_cases hs22 : a0 = (22 : Int32)
  · have h := hO_t hs22 h
    refine Y_tab 22 hs22 107 (dk KX5_apply 1 rfl) (by decide) (by decide) rfl (by decide) ?_
    refine X_iload_n 1 rfl (dk KX5_apply 21 rfl) ?_
    refine X_iload_n 2 rfl (dk KX5_apply 22 rfl) ?_
    refine X_icmp_eq 116 (dk KX5_apply 23 rfl) (by decide) (fun hc => ?_) (fun hc => ?_)
    · have h := hO_t hc h
      refine X_iconst (dk KX5_apply 26 rfl) 0 (by decide) ?_
      exact Y_iret (dk KX5_apply 27 rfl) rfl h
    · have h := hO_f hc h
      refine X_iconst (dk KX5_apply 24 rfl) 1 (by decide) ?_
      refine X_goto 117 (dk KX5_apply 25 rfl) (by decide) ?_
      exact Y_iret (dk KX5_apply 27 rfl) rfl h
  have h := hO_f hs22 h
  by_cases hs23 : a0 = (23 : Int32)
  · have h := hO_t hs23 h
    refine Y_tab 23 hs23 118 (dk KX5_apply 1 rfl) (by decide) (by decide) rfl (by decide) ?_
    refine X_iload_n 1 rfl (dk KX5_apply 28 rfl) ?_
    refine X_iload_n 2 rfl (dk KX5_apply 29 rfl) ?_
    refine X_icmp_ge 127 (dk KX5_apply 30 rfl) (by decide) (fun hc => ?_) (fun hc => ?_)
    · have h := hO_t hc h
      refine X_iconst (dk KX5_apply 33 rfl) 0 (by decide) ?_
      exact Y_iret (dk KX5_apply 34 rfl) rfl h
    · have h := hO_f hc h
      refine X_iconst (dk KX5_apply 31 rfl) 1 (by decide) ?_
      refine X_goto 128 (dk KX5_apply 32 rfl) (by decide) ?_
      exact Y_iret (dk KX5_apply 34 rfl) rfl h
  have h := hO_f hs23 h
  by_cases hs24 : a0 = (24 : Int32)
  · have h := hO_t hs24 h
    refine Y_tab 24 hs24 129 (dk KX5_apply 1 rfl) (by decide) (by decide) rfl (by decide) ?_
    refine X_iload_n 1 rfl (dk KX5_apply 35 rfl) ?_
    refine X_iload_n 2 rfl (dk KX5_apply 36 rfl) ?_
    refine X_icmp_gt 138 (dk KX5_apply 37 rfl) (by decide) (fun hc => ?_) (fun hc => ?_)
    · have h := hO_t hc h
      refine X_iconst (dk KX5_apply 40 rfl) 0 (by decide) ?_
      exact Y_iret (dk KX5_apply 41 rfl) rfl h
    · have h := hO_f hc h
      refine X_iconst (dk KX5_apply 38 rfl) 1 (by decide) ?_
      refine X_goto 139 (dk KX5_apply 39 rfl) (by decide) ?_
      exact Y_iret (dk KX5_apply 41 rfl) rfl h
  have h := hO_f hs24 h
  refine X_tableOut 144 (dk KX5_apply 1 rfl) (sw_out_8_24 hs8 hs9 hs10 hs11 hs12 hs13 hs14 hs15 hs16 hs17 hs18 hs19 hs20 hs21 hs22 hs23 hs24) (by decide) ?_
  refine X_iload_n 1 rfl (dk KX5_apply 46 rfl) ?_
  refine X_iload_n 2 rfl (dk KX5_apply 47 rfl) ?_
  refine X_ior (dk KX5_apply 48 rfl) ?_
  exact Y_iret (dk KX5_apply 49 rfl) rfl h

def fX5_run_142 (b : Nat) (x4 : Int32) (σ : PS) : Option (Int32 × PS) := (if x4 ≤ 0 then some (0, σ) else gd (inb 0 32) (some ((gi σ (b + 7) (0 : Int32).toNatClampNeg), σ)))
set_option maxRecDepth 100000 in
set_option maxHeartbeats 4000000 in
theorem tX5_run_142 {b : Nat} (hb : isBk b = true) {P : Int32 × PS → Prop} (x4 : Int32) (σ : PS) (h : hO (fX5_run_142 b x4 σ) P) : X g mX5_run 1 0 0 (pI P) 142 [(0, .ref b), (4, .int x4)] [] (HP σ) := by
  unfold fX5_run_142 at h
  refine X_iload 1 rfl (dk KX5_run 72 rfl) ?_
  refine X_if_le 156 (dk KX5_run 73 rfl) (by decide) (fun hc => ?_) (fun hc => ?_)
  · have h := hO_t hc h
    refine X_iconst (dk KX5_run 79 rfl) 0 (by decide) ?_
    exact Y_iret (dk KX5_run 80 rfl) rfl h
  · have h := hO_f hc h
    refine X_aload_n 0 rfl (dk KX5_run 74 rfl) ?_
    refine Y_getR (b + 7) fX5_30 (bk_lt hb) (bk_ob hb) (bk_rf hb _ _ 6 (by decide)) (dk KX5_run 75 rfl) ?_
    refine X_iconst (dk KX5_run 76 rfl) 0 (by decide) ?_
    refine Y_iald (bka_lt hb 7 (by decide)) (bka_ob hb 7 32 rfl rfl) (dk KX5_run 77 rfl) h (fun hi15 h => ?_)
    refine X_goto 157 (dk KX5_run 78 rfl) (by decide) ?_
    exact Y_iret (dk KX5_run 80 rfl) rfl h
def fX5_run_136 (b : Nat) (r10 : Int32 → Int32 → Int32 → PS → Option (Int32 × PS)) (x2 : Int32) (x4 : Int32) (x5 : Int32) (σ : PS) : Option (Int32 × PS) := r10 x2 x4 (x5 + 1) σ
set_option maxRecDepth 100000 in
set_option maxHeartbeats 4000000 in
theorem tX5_run_136 {b : Nat} (hb : isBk b = true) {P : Int32 × PS → Prop} {r10 : Int32 → Int32 → Int32 → PS → Option (Int32 × PS)} (hr_10 : ∀ (x2 : Int32) (x4 : Int32) (x5 : Int32) (σ : PS), hO (r10 x2 x4 x5 σ) P → X g mX5_run 1 0 0 (pI P) 10 [(0, .ref b), (2, .int x2), (3, .ref 42), (4, .int x4), (5, .int x5)] [] (HP σ)) (x2 : Int32) (x4 : Int32) (x5 : Int32) (σ : PS) (h : hO (fX5_run_136 b r10 x2 x4 x5 σ) P) : X g mX5_run 1 0 0 (pI P) 136 [(0, .ref b), (2, .int x2), (3, .ref 42), (4, .int x4), (5, .int x5)] [] (HP σ) := by
  unfold fX5_run_136 at h
  refine X_iinc 4 1 [(5, .int (x5 + 1)), (0, .ref b), (2, .int x2), (3, .ref 42), (4, .int x4)] (dk KX5_run 70 rfl) rfl (by decide) (by decide) rfl ?_
  refine X_goto 10 (dk KX5_run 71 rfl) (by decide) ?_
  refine X_sub [(0, .ref b), (2, .int x2), (3, .ref 42), (4, .int x4), (5, .int (x5 + 1))] [1, 2, 3, 4, 0] rfl ?_
  exact hr_10 x2 x4 (x5 + 1) σ h
def fX5_run_84 (b : Nat) (r10 : Int32 → Int32 → Int32 → PS → Option (Int32 × PS)) (x2 : Int32) (x4 : Int32) (x5 : Int32) (s1 : Int32) (s2 : Int32) (σ : PS) : Option (Int32 × PS) := gd (inb s1 32) (fX5_run_136 b r10 x2 (x4 + 1) x5 (sI σ (b + 7) (s1 : Int32).toNatClampNeg s2))
set_option maxRecDepth 100000 in
set_option maxHeartbeats 4000000 in
theorem tX5_run_84 {b : Nat} (hb : isBk b = true) {P : Int32 × PS → Prop} {r10 : Int32 → Int32 → Int32 → PS → Option (Int32 × PS)} (hr_10 : ∀ (x2 : Int32) (x4 : Int32) (x5 : Int32) (σ : PS), hO (r10 x2 x4 x5 σ) P → X g mX5_run 1 0 0 (pI P) 10 [(0, .ref b), (2, .int x2), (3, .ref 42), (4, .int x4), (5, .int x5)] [] (HP σ)) (x2 : Int32) (x4 : Int32) (x5 : Int32) (s1 : Int32) (s2 : Int32) (σ : PS) (h : hO (fX5_run_84 b r10 x2 x4 x5 s1 s2 σ) P) : X g mX5_run 1 0 0 (pI P) 84 [(0, .ref b), (2, .int x2), (3, .ref 42), (4, .int x4), (5, .int x5)] [.int s2, .int s1, .ref (b + 7)] (HP σ) := by
  unfold fX5_run_84 at h
  refine Y_iast (bka_lt hb 7 (by decide)) (bka_ob hb 7 32 rfl rfl) (dk KX5_run 42 rfl) h (fun hi16 h => ?_)
  refine X_iinc 3 1 [(4, .int (x4 + 1)), (0, .ref b), (2, .int x2), (3, .ref 42), (5, .int x5)] (dk KX5_run 43 rfl) rfl (by decide) (by decide) rfl ?_
  refine X_goto 136 (dk KX5_run 44 rfl) (by decide) ?_
  refine X_sub [(0, .ref b), (2, .int x2), (3, .ref 42), (4, .int (x4 + 1)), (5, .int x5)] [1, 2, 3, 0, 4] rfl ?_
  exact tX5_run_136 hb hr_10 x2 (x4 + 1) x5 (sI σ (b + 7) (s1 : Int32).toNatClampNeg s2) h
def fX5_run_57 (b : Nat) (r10 : Int32 → Int32 → Int32 → PS → Option (Int32 × PS)) (x2 : Int32) (x4 : Int32) (x5 : Int32) (x6 : Int32) (x7 : Int32) (σ : PS) : Option (Int32 × PS) := (if 32 ≤ x4 then fX5_run_136 b r10 x2 x4 x5 σ else (if x6 < 0 then gd (inb x7 8) (fX5_run_84 b r10 x2 x4 x5 x4 (gi σ 42 (x7 : Int32).toNatClampNeg) σ) else fX5_run_84 b r10 x2 x4 x5 x4 x6 σ))
set_option maxRecDepth 100000 in
set_option maxHeartbeats 4000000 in
theorem tX5_run_57 {b : Nat} (hb : isBk b = true) {P : Int32 × PS → Prop} {r10 : Int32 → Int32 → Int32 → PS → Option (Int32 × PS)} (hr_10 : ∀ (x2 : Int32) (x4 : Int32) (x5 : Int32) (σ : PS), hO (r10 x2 x4 x5 σ) P → X g mX5_run 1 0 0 (pI P) 10 [(0, .ref b), (2, .int x2), (3, .ref 42), (4, .int x4), (5, .int x5)] [] (HP σ)) (x2 : Int32) (x4 : Int32) (x5 : Int32) (x6 : Int32) (x7 : Int32) (σ : PS) (h : hO (fX5_run_57 b r10 x2 x4 x5 x6 x7 σ) P) : X g mX5_run 1 0 0 (pI P) 57 [(0, .ref b), (2, .int x2), (3, .ref 42), (4, .int x4), (5, .int x5), (6, .int x6), (7, .int x7)] [] (HP σ) := by
  unfold fX5_run_57 at h
  refine X_iload 3 rfl (dk KX5_run 29 rfl) ?_
  refine X_bipush (dk KX5_run 30 rfl) 32 (by decide) ?_
  refine X_icmp_ge 136 (dk KX5_run 31 rfl) (by decide) (fun hc => ?_) (fun hc => ?_)
  · have h := hO_t hc h
    refine X_sub [(0, .ref b), (2, .int x2), (3, .ref 42), (4, .int x4), (5, .int x5)] [0, 1, 2, 3, 4] rfl ?_
    exact tX5_run_136 hb hr_10 x2 x4 x5 σ h
  · have h := hO_f hc h
    refine X_aload_n 0 rfl (dk KX5_run 32 rfl) ?_
    refine Y_getR (b + 7) fX5_30 (bk_lt hb) (bk_ob hb) (bk_rf hb _ _ 6 (by decide)) (dk KX5_run 33 rfl) ?_
    refine X_iload 3 rfl (dk KX5_run 34 rfl) ?_
    refine X_iload 5 rfl (dk KX5_run 35 rfl) ?_
    refine X_if_lt 80 (dk KX5_run 36 rfl) (by decide) (fun hc => ?_) (fun hc => ?_)
    · have h := hO_t hc h
      refine X_aload_n 2 rfl (dk KX5_run 39 rfl) ?_
      refine X_iload 6 rfl (dk KX5_run 40 rfl) ?_
      refine Y_iald (Nat.le_of_ble_eq_true rfl) rfl (dk KX5_run 41 rfl) h (fun hi14 h => ?_)
      refine X_sub [(0, .ref b), (2, .int x2), (3, .ref 42), (4, .int x4), (5, .int x5)] [0, 1, 2, 3, 4] rfl ?_
      exact tX5_run_84 hb hr_10 x2 x4 x5 x4 (gi σ 42 (x7 : Int32).toNatClampNeg) σ h
    · have h := hO_f hc h
      refine X_iload 5 rfl (dk KX5_run 37 rfl) ?_
      refine X_goto 84 (dk KX5_run 38 rfl) (by decide) ?_
      refine X_sub [(0, .ref b), (2, .int x2), (3, .ref 42), (4, .int x4), (5, .int x5)] [0, 1, 2, 3, 4] rfl ?_
      exact tX5_run_84 hb hr_10 x2 x4 x5 x4 x6 σ h
def fX5_run_10 (b : Nat) : Nat → Int32 → Int32 → Int32 → PS → Option (Int32 × PS)
  | 0, _, _, _, _ => none
  | n + 1, x2, x4, x5, σ => (if x2 ≤ x5 then fX5_run_142 b x4 σ else (if 400 ≤ x5 then fX5_run_142 b x4 σ else gd (inb x5 400) ((if 0 ≤ (gi σ (b + 6) (x5 : Int32).toNatClampNeg) then fX5_run_57 b (fX5_run_10 b n) x2 x4 x5 (gi σ (b + 6) (x5 : Int32).toNatClampNeg) ((-(gi σ (b + 6) (x5 : Int32).toNatClampNeg)) - 9) σ else (fX8_isWithin ((-(gi σ (b + 6) (x5 : Int32).toNatClampNeg)) - 9) 0 7 σ).bind (fun qy2 => (fun (y2 : Int32) (σ3 : PS) => (if y2 = 0 then (fX8_isWithin x4 2 32 σ3).bind (fun qy5 => (fun (y5 : Int32) (σ6 : PS) => (if y5 = 0 then fX5_run_136 b (fX5_run_10 b n) x2 x4 x5 σ6 else gd (inb ((x4 + (-1)) - 1) 32) (gd (inb (x4 + (-1)) 32) ((fX5_apply (-(gi σ (b + 6) (x5 : Int32).toNatClampNeg)) (gi σ6 (b + 7) (((x4 + (-1)) - 1) : Int32).toNatClampNeg) (gi σ6 (b + 7) ((x4 + (-1)) : Int32).toNatClampNeg) σ6).bind (fun qy10 => (fun (y10 : Int32) (σ11 : PS) => gd (inb ((x4 + (-1)) - 1) 32) (fX5_run_136 b (fX5_run_10 b n) x2 (x4 + (-1)) x5 (sI σ11 (b + 7) (((x4 + (-1)) - 1) : Int32).toNatClampNeg y10))) qy10.1 qy10.2))))) qy5.1 qy5.2) else fX5_run_57 b (fX5_run_10 b n) x2 x4 x5 (gi σ (b + 6) (x5 : Int32).toNatClampNeg) ((-(gi σ (b + 6) (x5 : Int32).toNatClampNeg)) - 9) σ3)) qy2.1 qy2.2)))))
set_option maxRecDepth 100000 in
set_option maxHeartbeats 4000000 in
theorem tX5_run_10 {b : Nat} (hb : isBk b = true) {P : Int32 × PS → Prop} : ∀ (n : Nat) (x2 : Int32) (x4 : Int32) (x5 : Int32) (σ : PS), hO (fX5_run_10 b n x2 x4 x5 σ) P → X g mX5_run 1 0 0 (pI P) 10 [(0, .ref b), (2, .int x2), (3, .ref 42), (4, .int x4), (5, .int x5)] [] (HP σ) := by
  intro n
  induction n with
  | zero =>
    intro x2 x4 x5 σ h
    rw [fX5_run_10] at h
    exact (hO_none h).elim
  | succ n ih =>
    intro x2 x4 x5 σ h
    rw [fX5_run_10] at h
    refine X_iload 4 rfl (dk KX5_run 6 rfl) ?_
    refine X_iload_n 1 rfl (dk KX5_run 7 rfl) ?_
    refine X_icmp_ge 142 (dk KX5_run 8 rfl) (by decide) (fun hc => ?_) (fun hc => ?_)
    · have h := hO_t hc h
      refine X_sub [(0, .ref b), (4, .int x4)] [0, 3] rfl ?_
      exact tX5_run_142 hb x4 σ h
    · have h := hO_f hc h
      refine X_iload 4 rfl (dk KX5_run 9 rfl) ?_
      refine X_sipush (dk KX5_run 10 rfl) 400 (by decide) ?_
      refine X_icmp_ge 142 (dk KX5_run 11 rfl) (by decide) (fun hc => ?_) (fun hc => ?_)
      · have h := hO_t hc h
        refine X_sub [(0, .ref b), (4, .int x4)] [0, 3] rfl ?_
        exact tX5_run_142 hb x4 σ h
      · have h := hO_f hc h
        refine X_aload_n 0 rfl (dk KX5_run 12 rfl) ?_
        refine Y_getR (b + 6) fX5_27 (bk_lt hb) (bk_ob hb) (bk_rf hb _ _ 5 (by decide)) (dk KX5_run 13 rfl) ?_
        refine X_iload 4 rfl (dk KX5_run 14 rfl) ?_
        refine Y_iald (bka_lt hb 6 (by decide)) (bka_ob hb 6 400 rfl rfl) (dk KX5_run 15 rfl) h (fun hi1 h => ?_)
        refine X_istore [(6, .int (gi σ (b + 6) (x5 : Int32).toNatClampNeg)), (0, .ref b), (2, .int x2), (3, .ref 42), (4, .int x4), (5, .int x5)] (dk KX5_run 16 rfl) (by decide) rfl ?_
        refine X_iload 0 rfl (dk KX5_run 17 rfl) ?_
        refine X_ineg (dk KX5_run 18 rfl) ?_
        refine X_bipush (dk KX5_run 19 rfl) 9 (by decide) ?_
        refine X_isub (dk KX5_run 20 rfl) ?_
        refine X_istore [(7, .int ((-(gi σ (b + 6) (x5 : Int32).toNatClampNeg)) - 9)), (6, .int (gi σ (b + 6) (x5 : Int32).toNatClampNeg)), (0, .ref b), (2, .int x2), (3, .ref 42), (4, .int x4), (5, .int x5)] (dk KX5_run 21 rfl) (by decide) rfl ?_
        refine X_iload 1 rfl (dk KX5_run 22 rfl) ?_
        refine X_if_ge 57 (dk KX5_run 23 rfl) (by decide) (fun hc => ?_) (fun hc => ?_)
        · have h := hO_t hc h
          refine X_sub [(0, .ref b), (2, .int x2), (3, .ref 42), (4, .int x4), (5, .int x5), (6, .int (gi σ (b + 6) (x5 : Int32).toNatClampNeg)), (7, .int ((-(gi σ (b + 6) (x5 : Int32).toNatClampNeg)) - 9))] [2, 3, 4, 5, 6, 1, 0] rfl ?_
          exact tX5_run_57 hb ih x2 x4 x5 (gi σ (b + 6) (x5 : Int32).toNatClampNeg) ((-(gi σ (b + 6) (x5 : Int32).toNatClampNeg)) - 9) σ h
        · have h := hO_f hc h
          refine X_iload 0 rfl (dk KX5_run 24 rfl) ?_
          refine X_iconst (dk KX5_run 25 rfl) 0 (by decide) ?_
          refine X_bipush (dk KX5_run 26 rfl) 7 (by decide) ?_
          refine Y_callNI wX5_47 [.int ((-(gi σ (b + 6) (x5 : Int32).toNatClampNeg)) - 9), .int 0, .int 7] [] rfl rfl (Nat.le_of_ble_eq_true rfl) (Nat.le_of_ble_eq_true rfl) (dk KX5_run 27 rfl) (fun Pc h => okX8_isWithin _ _ _ _ Pc h) h (fun y2 σ3 e4 h => ?_)
          try dsimp only at h
          refine X_if_eq 91 (dk KX5_run 28 rfl) (by decide) (fun hc => ?_) (fun hc => ?_)
          · have h := hO_t hc h
            refine X_iload 5 rfl (dk KX5_run 45 rfl) ?_
            refine X_iconst (dk KX5_run 46 rfl) 2 (by decide) ?_
            refine X_bipush (dk KX5_run 47 rfl) 32 (by decide) ?_
            refine Y_callNI wX5_47 [.int x4, .int 2, .int 32] [] rfl rfl (Nat.le_of_ble_eq_true rfl) (Nat.le_of_ble_eq_true rfl) (dk KX5_run 48 rfl) (fun Pc h => okX8_isWithin _ _ _ _ Pc h) h (fun y5 σ6 e7 h => ?_)
            try dsimp only at h
            refine X_if_eq 136 (dk KX5_run 49 rfl) (by decide) (fun hc => ?_) (fun hc => ?_)
            · have h := hO_t hc h
              refine X_sub [(0, .ref b), (2, .int x2), (3, .ref 42), (4, .int x4), (5, .int x5)] [2, 3, 4, 5, 6] rfl ?_
              exact tX5_run_136 hb ih x2 x4 x5 σ6 h
            · have h := hO_f hc h
              refine X_iinc 5 (-1) [(4, .int (x4 + (-1))), (7, .int ((-(gi σ (b + 6) (x5 : Int32).toNatClampNeg)) - 9)), (6, .int (gi σ (b + 6) (x5 : Int32).toNatClampNeg)), (0, .ref b), (2, .int x2), (3, .ref 42), (5, .int x5)] (dk KX5_run 50 rfl) rfl (by decide) (by decide) rfl ?_
              refine X_aload_n 3 rfl (dk KX5_run 51 rfl) ?_
              refine Y_getR (b + 7) fX5_30 (bk_lt hb) (bk_ob hb) (bk_rf hb _ _ 6 (by decide)) (dk KX5_run 52 rfl) ?_
              refine X_iload 0 rfl (dk KX5_run 53 rfl) ?_
              refine X_iconst (dk KX5_run 54 rfl) 1 (by decide) ?_
              refine X_isub (dk KX5_run 55 rfl) ?_
              refine X_iload 2 rfl (dk KX5_run 56 rfl) ?_
              refine X_ineg (dk KX5_run 57 rfl) ?_
              refine X_aload_n 3 rfl (dk KX5_run 58 rfl) ?_
              refine Y_getR (b + 7) fX5_30 (bk_lt hb) (bk_ob hb) (bk_rf hb _ _ 6 (by decide)) (dk KX5_run 59 rfl) ?_
              refine X_iload 0 rfl (dk KX5_run 60 rfl) ?_
              refine X_iconst (dk KX5_run 61 rfl) 1 (by decide) ?_
              refine X_isub (dk KX5_run 62 rfl) ?_
              refine Y_iald (bka_lt hb 7 (by decide)) (bka_ob hb 7 32 rfl rfl) (dk KX5_run 63 rfl) h (fun hi8 h => ?_)
              refine X_aload_n 3 rfl (dk KX5_run 64 rfl) ?_
              refine Y_getR (b + 7) fX5_30 (bk_lt hb) (bk_ob hb) (bk_rf hb _ _ 6 (by decide)) (dk KX5_run 65 rfl) ?_
              refine X_iload 0 rfl (dk KX5_run 66 rfl) ?_
              refine Y_iald (bka_lt hb 7 (by decide)) (bka_ob hb 7 32 rfl rfl) (dk KX5_run 67 rfl) h (fun hi9 h => ?_)
              refine Y_callSI wX5_57 [.int (-(gi σ (b + 6) (x5 : Int32).toNatClampNeg)), .int (gi σ6 (b + 7) (((x4 + (-1)) - 1) : Int32).toNatClampNeg), .int (gi σ6 (b + 7) ((x4 + (-1)) : Int32).toNatClampNeg)] [.int ((x4 + (-1)) - 1), .ref (b + 7)] rfl rfl (Nat.le_of_ble_eq_true rfl) (Nat.le_of_ble_eq_true rfl) (dk KX5_run 68 rfl) (fun Pc h => okX5_apply _ _ _ _ Pc h) h (fun y10 σ11 e12 h => ?_)
              try dsimp only at h
              refine Y_iast (bka_lt hb 7 (by decide)) (bka_ob hb 7 32 rfl rfl) (dk KX5_run 69 rfl) h (fun hi13 h => ?_)
              refine X_sub [(0, .ref b), (2, .int x2), (3, .ref 42), (4, .int (x4 + (-1))), (5, .int x5)] [3, 4, 5, 0, 6] rfl ?_
              exact tX5_run_136 hb ih x2 (x4 + (-1)) x5 (sI σ11 (b + 7) (((x4 + (-1)) - 1) : Int32).toNatClampNeg y10) h
          · have h := hO_f hc h
            refine X_sub [(0, .ref b), (2, .int x2), (3, .ref 42), (4, .int x4), (5, .int x5), (6, .int (gi σ (b + 6) (x5 : Int32).toNatClampNeg)), (7, .int ((-(gi σ (b + 6) (x5 : Int32).toNatClampNeg)) - 9))] [2, 3, 4, 5, 6, 1, 0] rfl ?_
            exact tX5_run_57 hb ih x2 x4 x5 (gi σ (b + 6) (x5 : Int32).toNatClampNeg) ((-(gi σ (b + 6) (x5 : Int32).toNatClampNeg)) - 9) σ3 h
def fX5_run (b : Nat) (a1 : Int32) (a2 : Int32) (σ : PS) : Option (Int32 × PS) := fX5_run_10 b FU a2 0 (imax 0 a1) σ
set_option maxRecDepth 100000 in
set_option maxHeartbeats 4000000 in
theorem okX5_run {b : Nat} (hb : isBk b = true) (a1 : Int32) (a2 : Int32) (σ : PS) (P : Int32 × PS → Prop) (h : hO (fX5_run b a1 a2 σ) P) : CON g mX5_run 1 0 0 [.ref b, .int a1, .int a2, .ref 42] (HP σ) (pI P) := by
  refine CON.of (by decide) (by simp [lg_sl, Value.category]) ?_
  show X g _ _ _ _ _ 0 [(0, .ref b), (1, .int a1), (2, .int a2), (3, .ref 42)] [] _
  unfold fX5_run at h
  refine X_iconst (dk KX5_run 0 rfl) 0 (by decide) ?_
  refine X_istore [(4, .int 0), (0, .ref b), (1, .int a1), (2, .int a2), (3, .ref 42)] (dk KX5_run 1 rfl) (by decide) rfl ?_
  refine X_iconst (dk KX5_run 2 rfl) 0 (by decide) ?_
  refine X_iload_n 2 rfl (dk KX5_run 3 rfl) ?_
  refine Y_max (Nat.le_of_ble_eq_true rfl) (Nat.le_of_ble_eq_true rfl) mlX5_51 (dk KX5_run 4 rfl) ?_
  refine X_istore [(5, .int (imax 0 a1)), (4, .int 0), (0, .ref b), (1, .int a1), (2, .int a2), (3, .ref 42)] (dk KX5_run 5 rfl) (by decide) rfl ?_
  refine X_sub [(0, .ref b), (2, .int a2), (3, .ref 42), (4, .int 0), (5, .int (imax 0 a1))] [2, 4, 5, 1, 0] rfl ?_
  exact tX5_run_10 hb FU a2 0 (imax 0 a1) σ h

def fX5_firstThatHolds_83 (b : Nat) (r3 : Int32 → Int32 → Int32 → PS → Option (Int32 × PS)) (x1 : Int32) (x2 : Int32) (x4 : Int32) (σ : PS) : Option (Int32 × PS) := r3 x1 x2 (x4 + 1) σ
set_option maxRecDepth 100000 in
set_option maxHeartbeats 4000000 in
theorem tX5_firstThatHolds_83 {b : Nat} (hb : isBk b = true) {P : Int32 × PS → Prop} {r3 : Int32 → Int32 → Int32 → PS → Option (Int32 × PS)} (hr_3 : ∀ (x1 : Int32) (x2 : Int32) (x4 : Int32) (σ : PS), hO (r3 x1 x2 x4 σ) P → X g mX5_firstThatHolds 2 0 0 (pI P) 3 [(0, .ref b), (1, .int x1), (2, .int x2), (3, .ref 42), (4, .int x4)] [] (HP σ)) (x1 : Int32) (x2 : Int32) (x4 : Int32) (σ : PS) (h : hO (fX5_firstThatHolds_83 b r3 x1 x2 x4 σ) P) : X g mX5_firstThatHolds 2 0 0 (pI P) 83 [(0, .ref b), (1, .int x1), (2, .int x2), (3, .ref 42), (4, .int x4)] [] (HP σ) := by
  unfold fX5_firstThatHolds_83 at h
  refine X_iinc 4 1 [(4, .int (x4 + 1)), (0, .ref b), (1, .int x1), (2, .int x2), (3, .ref 42)] (dk KX5_firstThatHolds 44 rfl) rfl (by decide) (by decide) rfl ?_
  refine X_goto 3 (dk KX5_firstThatHolds 45 rfl) (by decide) ?_
  refine X_sub [(0, .ref b), (1, .int x1), (2, .int x2), (3, .ref 42), (4, .int (x4 + 1))] [1, 2, 3, 4, 0] rfl ?_
  exact hr_3 x1 x2 (x4 + 1) σ h
def fX5_firstThatHolds_3 (b : Nat) : Nat → Int32 → Int32 → Int32 → PS → Option (Int32 × PS)
  | 0, _, _, _, _ => none
  | n + 1, x1, x2, x4, σ => (if (gi σ b 7) ≤ x4 then some ((-1), σ) else (if 20 ≤ x4 then some ((-1), σ) else gd (inb x4 20) ((if (gi σ (b + 1) (x4 : Int32).toNatClampNeg) = x1 then gd (inb x4 20) ((if (gi σ (b + 2) (x4 : Int32).toNatClampNeg) = x2 then gd (inb x4 20) (gd (inb x4 20) ((if (gi σ (b + 4) (x4 : Int32).toNatClampNeg) = (gi σ (b + 5) (x4 : Int32).toNatClampNeg) then some (x4, σ) else gd (inb x4 20) (gd (inb x4 20) ((fX5_run b (gi σ (b + 4) (x4 : Int32).toNatClampNeg) (gi σ (b + 5) (x4 : Int32).toNatClampNeg) σ).bind (fun qy7 => (fun (y7 : Int32) (σ8 : PS) => (if y7 = 0 then fX5_firstThatHolds_83 b (fX5_firstThatHolds_3 b n) x1 x2 x4 σ8 else some (x4, σ8))) qy7.1 qy7.2)))))) else fX5_firstThatHolds_83 b (fX5_firstThatHolds_3 b n) x1 x2 x4 σ)) else fX5_firstThatHolds_83 b (fX5_firstThatHolds_3 b n) x1 x2 x4 σ))))
set_option maxRecDepth 100000 in
set_option maxHeartbeats 4000000 in
theorem tX5_firstThatHolds_3 {b : Nat} (hb : isBk b = true) {P : Int32 × PS → Prop} : ∀ (n : Nat) (x1 : Int32) (x2 : Int32) (x4 : Int32) (σ : PS), hO (fX5_firstThatHolds_3 b n x1 x2 x4 σ) P → X g mX5_firstThatHolds 2 0 0 (pI P) 3 [(0, .ref b), (1, .int x1), (2, .int x2), (3, .ref 42), (4, .int x4)] [] (HP σ) := by
  intro n
  induction n with
  | zero =>
    intro x1 x2 x4 σ h
    rw [fX5_firstThatHolds_3] at h
    exact (hO_none h).elim
  | succ n ih =>
    intro x1 x2 x4 σ h
    rw [fX5_firstThatHolds_3] at h
    refine X_iload 4 rfl (dk KX5_firstThatHolds 2 rfl) ?_
    refine X_aload_n 0 rfl (dk KX5_firstThatHolds 3 rfl) ?_
    refine Y_getI fX5_33 (bk_lt hb) (bk_ob hb) (dk KX5_firstThatHolds 4 rfl) ?_
    refine X_icmp_ge 89 (dk KX5_firstThatHolds 5 rfl) (by decide) (fun hc => ?_) (fun hc => ?_)
    · have h := hO_t hc h
      refine X_iconst (dk KX5_firstThatHolds 46 rfl) (-1) (by decide) ?_
      exact Y_iret (dk KX5_firstThatHolds 47 rfl) rfl h
    · have h := hO_f hc h
      refine X_iload 4 rfl (dk KX5_firstThatHolds 6 rfl) ?_
      refine X_bipush (dk KX5_firstThatHolds 7 rfl) 20 (by decide) ?_
      refine X_icmp_ge 89 (dk KX5_firstThatHolds 8 rfl) (by decide) (fun hc => ?_) (fun hc => ?_)
      · have h := hO_t hc h
        refine X_iconst (dk KX5_firstThatHolds 46 rfl) (-1) (by decide) ?_
        exact Y_iret (dk KX5_firstThatHolds 47 rfl) rfl h
      · have h := hO_f hc h
        refine X_aload_n 0 rfl (dk KX5_firstThatHolds 9 rfl) ?_
        refine Y_getR (b + 1) fX5_9 (bk_lt hb) (bk_ob hb) (bk_rf hb _ _ 0 (by decide)) (dk KX5_firstThatHolds 10 rfl) ?_
        refine X_iload 4 rfl (dk KX5_firstThatHolds 11 rfl) ?_
        refine Y_iald (bka_lt hb 1 (by decide)) (bka_ob hb 1 20 rfl rfl) (dk KX5_firstThatHolds 12 rfl) h (fun hi1 h => ?_)
        refine X_iload_n 1 rfl (dk KX5_firstThatHolds 13 rfl) ?_
        refine X_icmp_ne 83 (dk KX5_firstThatHolds 14 rfl) (by decide) (fun hc => ?_) (fun hc => ?_)
        · have h := hO_f hc h
          exact tX5_firstThatHolds_83 hb ih x1 x2 x4 σ h
        · have h := hO_t hc h
          refine X_aload_n 0 rfl (dk KX5_firstThatHolds 15 rfl) ?_
          refine Y_getR (b + 2) fX5_15 (bk_lt hb) (bk_ob hb) (bk_rf hb _ _ 1 (by decide)) (dk KX5_firstThatHolds 16 rfl) ?_
          refine X_iload 4 rfl (dk KX5_firstThatHolds 17 rfl) ?_
          refine Y_iald (bka_lt hb 2 (by decide)) (bka_ob hb 2 20 rfl rfl) (dk KX5_firstThatHolds 18 rfl) h (fun hi2 h => ?_)
          refine X_iload_n 2 rfl (dk KX5_firstThatHolds 19 rfl) ?_
          refine X_icmp_ne 83 (dk KX5_firstThatHolds 20 rfl) (by decide) (fun hc => ?_) (fun hc => ?_)
          · have h := hO_f hc h
            exact tX5_firstThatHolds_83 hb ih x1 x2 x4 σ h
          · have h := hO_t hc h
            refine X_aload_n 0 rfl (dk KX5_firstThatHolds 21 rfl) ?_
            refine Y_getR (b + 4) fX5_21 (bk_lt hb) (bk_ob hb) (bk_rf hb _ _ 3 (by decide)) (dk KX5_firstThatHolds 22 rfl) ?_
            refine X_iload 4 rfl (dk KX5_firstThatHolds 23 rfl) ?_
            refine Y_iald (bka_lt hb 4 (by decide)) (bka_ob hb 4 20 rfl rfl) (dk KX5_firstThatHolds 24 rfl) h (fun hi3 h => ?_)
            refine X_aload_n 0 rfl (dk KX5_firstThatHolds 25 rfl) ?_
            refine Y_getR (b + 5) fX5_24 (bk_lt hb) (bk_ob hb) (bk_rf hb _ _ 4 (by decide)) (dk KX5_firstThatHolds 26 rfl) ?_
            refine X_iload 4 rfl (dk KX5_firstThatHolds 27 rfl) ?_
            refine Y_iald (bka_lt hb 5 (by decide)) (bka_ob hb 5 20 rfl rfl) (dk KX5_firstThatHolds 28 rfl) h (fun hi4 h => ?_)
            refine X_icmp_eq 80 (dk KX5_firstThatHolds 29 rfl) (by decide) (fun hc => ?_) (fun hc => ?_)
            · have h := hO_t hc h
              refine X_iload 4 rfl (dk KX5_firstThatHolds 42 rfl) ?_
              exact Y_iret (dk KX5_firstThatHolds 43 rfl) rfl h
            · have h := hO_f hc h
              refine X_aload_n 0 rfl (dk KX5_firstThatHolds 30 rfl) ?_
              refine X_aload_n 0 rfl (dk KX5_firstThatHolds 31 rfl) ?_
              refine Y_getR (b + 4) fX5_21 (bk_lt hb) (bk_ob hb) (bk_rf hb _ _ 3 (by decide)) (dk KX5_firstThatHolds 32 rfl) ?_
              refine X_iload 4 rfl (dk KX5_firstThatHolds 33 rfl) ?_
              refine Y_iald (bka_lt hb 4 (by decide)) (bka_ob hb 4 20 rfl rfl) (dk KX5_firstThatHolds 34 rfl) h (fun hi5 h => ?_)
              refine X_aload_n 0 rfl (dk KX5_firstThatHolds 35 rfl) ?_
              refine Y_getR (b + 5) fX5_24 (bk_lt hb) (bk_ob hb) (bk_rf hb _ _ 4 (by decide)) (dk KX5_firstThatHolds 36 rfl) ?_
              refine X_iload 4 rfl (dk KX5_firstThatHolds 37 rfl) ?_
              refine Y_iald (bka_lt hb 5 (by decide)) (bka_ob hb 5 20 rfl rfl) (dk KX5_firstThatHolds 38 rfl) h (fun hi6 h => ?_)
              refine X_aload_n 3 rfl (dk KX5_firstThatHolds 39 rfl) ?_
              refine Y_callVI wX5_40 (bk_lt hb) (bk_ob hb) [.int (gi σ (b + 4) (x4 : Int32).toNatClampNeg), .int (gi σ (b + 5) (x4 : Int32).toNatClampNeg), .ref 42] [] rfl rfl (Nat.le_of_ble_eq_true rfl) (Nat.le_of_ble_eq_true rfl) (dk KX5_firstThatHolds 40 rfl) (fun Pc h => okX5_run hb _ _ _ Pc h) h (fun y7 σ8 e9 h => ?_)
              try dsimp only at h
              refine X_if_eq 83 (dk KX5_firstThatHolds 41 rfl) (by decide) (fun hc => ?_) (fun hc => ?_)
              · have h := hO_t hc h
                exact tX5_firstThatHolds_83 hb ih x1 x2 x4 σ8 h
              · have h := hO_f hc h
                refine X_iload 4 rfl (dk KX5_firstThatHolds 42 rfl) ?_
                exact Y_iret (dk KX5_firstThatHolds 43 rfl) rfl h
def fX5_firstThatHolds (b : Nat) (a1 : Int32) (a2 : Int32) (σ : PS) : Option (Int32 × PS) := fX5_firstThatHolds_3 b FU a1 a2 0 σ
set_option maxRecDepth 100000 in
set_option maxHeartbeats 4000000 in
theorem okX5_firstThatHolds {b : Nat} (hb : isBk b = true) (a1 : Int32) (a2 : Int32) (σ : PS) (P : Int32 × PS → Prop) (h : hO (fX5_firstThatHolds b a1 a2 σ) P) : CON g mX5_firstThatHolds 2 0 0 [.ref b, .int a1, .int a2, .ref 42] (HP σ) (pI P) := by
  refine CON.of (by decide) (by simp [lg_sl, Value.category]) ?_
  show X g _ _ _ _ _ 0 [(0, .ref b), (1, .int a1), (2, .int a2), (3, .ref 42)] [] _
  unfold fX5_firstThatHolds at h
  refine X_iconst (dk KX5_firstThatHolds 0 rfl) 0 (by decide) ?_
  refine X_istore [(4, .int 0), (0, .ref b), (1, .int a1), (2, .int a2), (3, .ref 42)] (dk KX5_firstThatHolds 1 rfl) (by decide) rfl ?_
  refine X_sub [(0, .ref b), (1, .int a1), (2, .int a2), (3, .ref 42), (4, .int 0)] [1, 2, 3, 4, 0] rfl ?_
  exact tX5_firstThatHolds_3 hb FU a1 a2 0 σ h

def fX5_value (b : Nat) (a1 : Int32) (a2 : Int32) (σ : PS) : Option (Int32 × PS) := (fX5_firstThatHolds b a1 a2 σ).bind (fun qy1 => (fun (y1 : Int32) (σ2 : PS) => (fX8_isWithin y1 0 19 σ2).bind (fun qy4 => (fun (y4 : Int32) (σ5 : PS) => (if y4 = 0 then some (0, σ5) else gd (inb y1 20) (gd (inb y1 20) ((fX5_run b (gi σ5 (b + 3) (y1 : Int32).toNatClampNeg) (gi σ5 (b + 4) (y1 : Int32).toNatClampNeg) σ5).bind (fun qy9 => (fun (y9 : Int32) (σ10 : PS) => some (y9, σ10)) qy9.1 qy9.2))))) qy4.1 qy4.2)) qy1.1 qy1.2)
set_option maxRecDepth 100000 in
set_option maxHeartbeats 4000000 in
theorem okX5_value {b : Nat} (hb : isBk b = true) (a1 : Int32) (a2 : Int32) (σ : PS) (P : Int32 × PS → Prop) (h : hO (fX5_value b a1 a2 σ) P) : CON g mX5_value 3 0 0 [.ref b, .int a1, .int a2, .ref 42] (HP σ) (pI P) := by
  refine CON.of (by decide) (by simp [lg_sl, Value.category]) ?_
  show X g _ _ _ _ _ 0 [(0, .ref b), (1, .int a1), (2, .int a2), (3, .ref 42)] [] _
  unfold fX5_value at h
  refine X_aload_n 0 rfl (dk KX5_value 0 rfl) ?_
  refine X_iload_n 1 rfl (dk KX5_value 1 rfl) ?_
  refine X_iload_n 2 rfl (dk KX5_value 2 rfl) ?_
  refine X_aload_n 3 rfl (dk KX5_value 3 rfl) ?_
  refine Y_callVI wX5_44 (bk_lt hb) (bk_ob hb) [.int a1, .int a2, .ref 42] [] rfl rfl (Nat.le_of_ble_eq_true rfl) (Nat.le_of_ble_eq_true rfl) (dk KX5_value 4 rfl) (fun Pc h => okX5_firstThatHolds hb _ _ _ Pc h) h (fun y1 σ2 e3 h => ?_)
  try dsimp only at h
  refine X_istore [(4, .int y1), (0, .ref b), (1, .int a1), (2, .int a2), (3, .ref 42)] (dk KX5_value 5 rfl) (by decide) rfl ?_
  refine X_iload 0 rfl (dk KX5_value 6 rfl) ?_
  refine X_iconst (dk KX5_value 7 rfl) 0 (by decide) ?_
  refine X_bipush (dk KX5_value 8 rfl) 19 (by decide) ?_
  refine Y_callNI wX5_47 [.int y1, .int 0, .int 19] [] rfl rfl (Nat.le_of_ble_eq_true rfl) (Nat.le_of_ble_eq_true rfl) (dk KX5_value 9 rfl) (fun Pc h => okX8_isWithin _ _ _ _ Pc h) h (fun y4 σ5 e6 h => ?_)
  try dsimp only at h
  refine X_if_eq 42 (dk KX5_value 10 rfl) (by decide) (fun hc => ?_) (fun hc => ?_)
  · have h := hO_t hc h
    refine X_iconst (dk KX5_value 23 rfl) 0 (by decide) ?_
    exact Y_iret (dk KX5_value 24 rfl) rfl h
  · have h := hO_f hc h
    refine X_aload_n 1 rfl (dk KX5_value 11 rfl) ?_
    refine X_aload_n 1 rfl (dk KX5_value 12 rfl) ?_
    refine Y_getR (b + 3) fX5_18 (bk_lt hb) (bk_ob hb) (bk_rf hb _ _ 2 (by decide)) (dk KX5_value 13 rfl) ?_
    refine X_iload 0 rfl (dk KX5_value 14 rfl) ?_
    refine Y_iald (bka_lt hb 3 (by decide)) (bka_ob hb 3 20 rfl rfl) (dk KX5_value 15 rfl) h (fun hi7 h => ?_)
    refine X_aload_n 1 rfl (dk KX5_value 16 rfl) ?_
    refine Y_getR (b + 4) fX5_21 (bk_lt hb) (bk_ob hb) (bk_rf hb _ _ 3 (by decide)) (dk KX5_value 17 rfl) ?_
    refine X_iload 0 rfl (dk KX5_value 18 rfl) ?_
    refine Y_iald (bka_lt hb 4 (by decide)) (bka_ob hb 4 20 rfl rfl) (dk KX5_value 19 rfl) h (fun hi8 h => ?_)
    refine X_aload_n 4 rfl (dk KX5_value 20 rfl) ?_
    refine Y_callVI wX5_40 (bk_lt hb) (bk_ob hb) [.int (gi σ5 (b + 3) (y1 : Int32).toNatClampNeg), .int (gi σ5 (b + 4) (y1 : Int32).toNatClampNeg), .ref 42] [] rfl rfl (Nat.le_of_ble_eq_true rfl) (Nat.le_of_ble_eq_true rfl) (dk KX5_value 21 rfl) (fun Pc h => okX5_run hb _ _ _ Pc h) h (fun y9 σ10 e11 h => ?_)
    try dsimp only at h
    refine X_goto 43 (dk KX5_value 22 rfl) (by decide) ?_
    exact Y_iret (dk KX5_value 24 rfl) rfl h

end G
