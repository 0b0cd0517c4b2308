section G
variable {g : GP}
def fL_law_926 (g : GP) (r18 : Int32 → PS → Option (Int32 × PS)) (x3 : Int32) (σ : PS) : Option (Int32 × PS) := r18 (x3 + 7) σ
set_option maxRecDepth 100000 in
set_option maxHeartbeats 4000000 in
theorem tL_law_926 {P : Int32 × PS → Prop} {r18 : Int32 → PS → Option (Int32 × PS)} (hr_18 : ∀ (x3 : Int32) (σ : PS), hO (r18 x3 σ) P → X g mL_law 20 0 0 (pI P) 18 [(0, .ref (SB + 2)), (1, .ref 0), (2, .ref 132), (3, .int x3)] [] (HP σ)) (x3 : Int32) (σ : PS) (h : hO (fL_law_926 g r18 x3 σ) P) : X g mL_law 20 0 0 (pI P) 926 [(0, .ref (SB + 2)), (1, .ref 0), (2, .ref 132), (3, .int x3)] [] (HP σ) := by
  unfold fL_law_926 at h
  refine X_iinc 3 7 [(3, .int (x3 + 7)), (0, .ref (SB + 2)), (1, .ref 0), (2, .ref 132)] (dk KL_law_13 40 rfl) rfl (by decide) (by decide) rfl ?_
  refine X_goto 18 (dk KL_law_13 41 rfl) (by decide) ?_
  refine X_sub [(0, .ref (SB + 2)), (1, .ref 0), (2, .ref 132), (3, .int (x3 + 7))] [1, 2, 3, 0] rfl ?_
  exact hr_18 (x3 + 7) σ h
def fL_law_498 (g : GP) (r18 : Int32 → PS → Option (Int32 × PS)) (x3 : Int32) (s0 : Int32) (s2 : Int32) (s3 : Int32) (s4 : Int32) (σ : PS) : Option (Int32 × PS) := (fX9_look s2 s3 s4 σ).bind (fun qy223 => (fun (y223 : Int32) (σ224 : PS) => (if s0 = y223 then fL_law_926 g r18 x3 σ224 else some (0, σ224))) qy223.1 qy223.2)
set_option maxRecDepth 100000 in
set_option maxHeartbeats 4000000 in
theorem tL_law_498 {P : Int32 × PS → Prop} {r18 : Int32 → PS → Option (Int32 × PS)} (hr_18 : ∀ (x3 : Int32) (σ : PS), hO (r18 x3 σ) P → X g mL_law 20 0 0 (pI P) 18 [(0, .ref (SB + 2)), (1, .ref 0), (2, .ref 132), (3, .int x3)] [] (HP σ)) (x3 : Int32) (s0 : Int32) (s2 : Int32) (s3 : Int32) (s4 : Int32) (σ : PS) (h : hO (fL_law_498 g r18 x3 s0 s2 s3 s4 σ) P) : X g mL_law 20 0 0 (pI P) 498 [(0, .ref (SB + 2)), (1, .ref 0), (2, .ref 132), (3, .int x3)] [.int s4, .int s3, .int s2, .ref 132, .int s0] (HP σ) := by
  unfold fL_law_498 at h
  refine Y_callVI wL_59 (Nat.le_of_ble_eq_true rfl) rfl [.int s2, .int s3, .int s4] [.int s0] rfl rfl (Nat.le_of_ble_eq_true rfl) (Nat.le_of_ble_eq_true rfl) (dk KL_law_6 26 rfl) (fun Pc h => okX9_look _ _ _ _ Pc h) h (fun y223 σ224 e225 h => ?_)
  try dsimp only at h
  refine X_icmp_eq 926 (dk KL_law_6 27 rfl) (by decide) (fun hc => ?_) (fun hc => ?_)
  · have h := hO_t hc h
    exact tL_law_926 hr_18 x3 σ224 h
  · have h := hO_f hc h
    refine X_iconst (dk KL_law_6 28 rfl) 0 (by decide) ?_
    exact Y_zret (dk KL_law_6 29 rfl) rfl (by decide) h
def fL_law_471 (g : GP) (r18 : Int32 → PS → Option (Int32 × PS)) (x3 : Int32) (s1 : Int32) (s2 : Int32) (s3 : Int32) (σ : PS) : Option (Int32 × PS) := (fX8_look s1 s2 s3 σ).bind (fun qy217 => (fun (y217 : Int32) (σ218 : PS) => gd (inb (x3 + 1) g.2.1) (gd (inb (x3 + 2) g.2.1) (gd (inb (x3 + 3) g.2.1) ((if (g.2.2 ((x3 + 3) : Int32).toNatClampNeg) = 0 then fL_law_498 g r18 x3 y217 (g.2.2 ((x3 + 1) : Int32).toNatClampNeg) (g.2.2 ((x3 + 2) : Int32).toNatClampNeg) 0 σ218 else fL_law_498 g r18 x3 y217 (g.2.2 ((x3 + 1) : Int32).toNatClampNeg) (g.2.2 ((x3 + 2) : Int32).toNatClampNeg) 1 σ218))))) qy217.1 qy217.2)
set_option maxRecDepth 100000 in
set_option maxHeartbeats 4000000 in
theorem tL_law_471 {P : Int32 × PS → Prop} {r18 : Int32 → PS → Option (Int32 × PS)} (hr_18 : ∀ (x3 : Int32) (σ : PS), hO (r18 x3 σ) P → X g mL_law 20 0 0 (pI P) 18 [(0, .ref (SB + 2)), (1, .ref 0), (2, .ref 132), (3, .int x3)] [] (HP σ)) (x3 : Int32) (s1 : Int32) (s2 : Int32) (s3 : Int32) (σ : PS) (h : hO (fL_law_471 g r18 x3 s1 s2 s3 σ) P) : X g mL_law 20 0 0 (pI P) 471 [(0, .ref (SB + 2)), (1, .ref 0), (2, .ref 132), (3, .int x3)] [.int s3, .int s2, .int s1, .ref 0] (HP σ) := by
  unfold fL_law_471 at h
  refine Y_callVI wL_55 (Nat.le_of_ble_eq_true rfl) rfl [.int s1, .int s2, .int s3] [] rfl rfl (Nat.le_of_ble_eq_true rfl) (Nat.le_of_ble_eq_true rfl) (dk KL_law_6 5 rfl) (fun Pc h => okX8_look _ _ _ _ Pc h) h (fun y217 σ218 e219 h => ?_)
  try dsimp only at h
  refine X_aload_n 2 rfl (dk KL_law_6 6 rfl) ?_
  refine X_aload_n 0 rfl (dk KL_law_6 7 rfl) ?_
  refine X_iload_n 3 rfl (dk KL_law_6 8 rfl) ?_
  refine X_iconst (dk KL_law_6 9 rfl) 1 (by decide) ?_
  refine X_iadd (dk KL_law_6 10 rfl) ?_
  refine Y_sld (dk KL_law_6 11 rfl) h (fun hi220 h => ?_)
  refine X_aload_n 0 rfl (dk KL_law_6 12 rfl) ?_
  refine X_iload_n 3 rfl (dk KL_law_6 13 rfl) ?_
  refine X_iconst (dk KL_law_6 14 rfl) 2 (by decide) ?_
  refine X_iadd (dk KL_law_6 15 rfl) ?_
  refine Y_sld (dk KL_law_6 16 rfl) h (fun hi221 h => ?_)
  refine X_aload_n 0 rfl (dk KL_law_6 17 rfl) ?_
  refine X_iload_n 3 rfl (dk KL_law_6 18 rfl) ?_
  refine X_iconst (dk KL_law_6 19 rfl) 3 (by decide) ?_
  refine X_iadd (dk KL_law_6 20 rfl) ?_
  refine Y_sld (dk KL_law_6 21 rfl) h (fun hi222 h => ?_)
  refine X_if_eq 497 (dk KL_law_6 22 rfl) (by decide) (fun hc => ?_) (fun hc => ?_)
  · have h := hO_t hc h
    refine X_iconst (dk KL_law_6 25 rfl) 0 (by decide) ?_
    exact tL_law_498 hr_18 x3 y217 (g.2.2 ((x3 + 1) : Int32).toNatClampNeg) (g.2.2 ((x3 + 2) : Int32).toNatClampNeg) 0 σ218 h
  · have h := hO_f hc h
    refine X_iconst (dk KL_law_6 23 rfl) 1 (by decide) ?_
    refine X_goto 498 (dk KL_law_6 24 rfl) (by decide) ?_
    exact tL_law_498 hr_18 x3 y217 (g.2.2 ((x3 + 1) : Int32).toNatClampNeg) (g.2.2 ((x3 + 2) : Int32).toNatClampNeg) 1 σ218 h
def fL_law_18 (g : GP) : Nat → Int32 → PS → Option (Int32 × PS)
  | 0, _, _ => none
  | n + 1, x3, σ => (if ((Int32.ofNat g.2.1) - 7) < x3 then some (1, σ) else gd (inb x3 g.2.1) ((if ((g.2.2 (x3 : Int32).toNatClampNeg) &&& 31) = 0 then gd (inb (x3 + 1) g.2.1) (gd (inb (x3 + 2) g.2.1) (gd (inb (x3 + 3) g.2.1) (gd (inb (x3 + 4) g.2.1) (gd (inb (x3 + 5) g.2.1) ((fX8_feed (g.2.2 ((x3 + 1) : Int32).toNatClampNeg) (g.2.2 ((x3 + 2) : Int32).toNatClampNeg) (g.2.2 ((x3 + 3) : Int32).toNatClampNeg) (g.2.2 ((x3 + 4) : Int32).toNatClampNeg) (g.2.2 ((x3 + 5) : Int32).toNatClampNeg) σ).bind (fun qy7 => (fun (y7 : Int32) (σ8 : PS) => gd (inb (x3 + 1) g.2.1) (gd (inb (x3 + 2) g.2.1) (gd (inb (x3 + 3) g.2.1) (gd (inb (x3 + 4) g.2.1) (gd (inb (x3 + 5) g.2.1) ((fX9_feed (g.2.2 ((x3 + 1) : Int32).toNatClampNeg) (g.2.2 ((x3 + 2) : Int32).toNatClampNeg) (g.2.2 ((x3 + 3) : Int32).toNatClampNeg) (g.2.2 ((x3 + 4) : Int32).toNatClampNeg) (g.2.2 ((x3 + 5) : Int32).toNatClampNeg) σ8).bind (fun qy15 => (fun (y15 : Int32) (σ16 : PS) => (if y7 = y15 then fL_law_926 g (fL_law_18 g n) x3 σ16 else some (0, σ16))) qy15.1 qy15.2))))))) qy7.1 qy7.2)))))) else (if ((g.2.2 (x3 : Int32).toNatClampNeg) &&& 31) = 1 then gd (inb (x3 + 1) g.2.1) ((fX8_back (g.2.2 ((x3 + 1) : Int32).toNatClampNeg) σ).bind (fun qy19 => (fun (y19 : Int32) (σ20 : PS) => gd (inb (x3 + 1) g.2.1) ((fX9_back (g.2.2 ((x3 + 1) : Int32).toNatClampNeg) σ20).bind (fun qy23 => (fun (y23 : Int32) (σ24 : PS) => (if y19 = y23 then fL_law_926 g (fL_law_18 g n) x3 σ24 else some (0, σ24))) qy23.1 qy23.2))) qy19.1 qy19.2)) else (if ((g.2.2 (x3 : Int32).toNatClampNeg) &&& 31) = 2 then (fX8_read σ).bind (fun qy26 => (fun (y26 : Int32) (σ27 : PS) => (fX9_read σ27).bind (fun qy29 => (fun (y29 : Int32) (σ30 : PS) => (if y26 = y29 then fL_law_926 g (fL_law_18 g n) x3 σ30 else some (0, σ30))) qy29.1 qy29.2)) qy26.1 qy26.2) else (if ((g.2.2 (x3 : Int32).toNatClampNeg) &&& 31) = 3 then (fX8_place σ).bind (fun qy32 => (fun (y32 : Int32) (σ33 : PS) => (fX9_place σ33).bind (fun qy35 => (fun (y35 : Int32) (σ36 : PS) => (if y32 = y35 then fL_law_926 g (fL_law_18 g n) x3 σ36 else some (0, σ36))) qy35.1 qy35.2)) qy32.1 qy32.2) else (if ((g.2.2 (x3 : Int32).toNatClampNeg) &&& 31) = 4 then gd (inb (x3 + 1) g.2.1) (gd (inb (x3 + 2) g.2.1) (gd (inb (x3 + 3) g.2.1) ((fX8_inn (g.2.2 ((x3 + 1) : Int32).toNatClampNeg) (g.2.2 ((x3 + 2) : Int32).toNatClampNeg) (g.2.2 ((x3 + 3) : Int32).toNatClampNeg) σ).bind (fun qy41 => (fun (y41 : Int32) (σ42 : PS) => gd (inb (x3 + 1) g.2.1) (gd (inb (x3 + 2) g.2.1) (gd (inb (x3 + 3) g.2.1) ((fX9_inn (g.2.2 ((x3 + 1) : Int32).toNatClampNeg) (g.2.2 ((x3 + 2) : Int32).toNatClampNeg) (g.2.2 ((x3 + 3) : Int32).toNatClampNeg) σ42).bind (fun qy47 => (fun (y47 : Int32) (σ48 : PS) => (if y41 = y47 then fL_law_926 g (fL_law_18 g n) x3 σ48 else some (0, σ48))) qy47.1 qy47.2))))) qy41.1 qy41.2)))) else (if ((g.2.2 (x3 : Int32).toNatClampNeg) &&& 31) = 5 then gd (inb (x3 + 1) g.2.1) (gd (inb (x3 + 2) g.2.1) ((fX8_room (g.2.2 ((x3 + 1) : Int32).toNatClampNeg) (g.2.2 ((x3 + 2) : Int32).toNatClampNeg) σ).bind (fun qy52 => (fun (y52 : Int32) (σ53 : PS) => gd (inb (x3 + 1) g.2.1) (gd (inb (x3 + 2) g.2.1) ((fX9_room (g.2.2 ((x3 + 1) : Int32).toNatClampNeg) (g.2.2 ((x3 + 2) : Int32).toNatClampNeg) σ53).bind (fun qy57 => (fun (y57 : Int32) (σ58 : PS) => (if y52 = y57 then fL_law_926 g (fL_law_18 g n) x3 σ58 else some (0, σ58))) qy57.1 qy57.2)))) qy52.1 qy52.2))) else (if ((g.2.2 (x3 : Int32).toNatClampNeg) &&& 31) = 6 then gd (inb (x3 + 1) g.2.1) (gd (inb (x3 + 2) g.2.1) (gd (inb (x3 + 3) g.2.1) (gd (inb (x3 + 4) g.2.1) (gd (inb (x3 + 5) g.2.1) (gd (inb (x3 + 6) g.2.1) ((fX8_caravan (g.2.2 ((x3 + 1) : Int32).toNatClampNeg) (g.2.2 ((x3 + 2) : Int32).toNatClampNeg) (g.2.2 ((x3 + 3) : Int32).toNatClampNeg) (g.2.2 ((x3 + 4) : Int32).toNatClampNeg) (g.2.2 ((x3 + 5) : Int32).toNatClampNeg) (g.2.2 ((x3 + 6) : Int32).toNatClampNeg) σ).bind (fun qy66 => (fun (y66 : Int32) (σ67 : PS) => gd (inb (x3 + 1) g.2.1) (gd (inb (x3 + 2) g.2.1) (gd (inb (x3 + 3) g.2.1) (gd (inb (x3 + 4) g.2.1) (gd (inb (x3 + 5) g.2.1) (gd (inb (x3 + 6) g.2.1) ((fX9_caravan (g.2.2 ((x3 + 1) : Int32).toNatClampNeg) (g.2.2 ((x3 + 2) : Int32).toNatClampNeg) (g.2.2 ((x3 + 3) : Int32).toNatClampNeg) (g.2.2 ((x3 + 4) : Int32).toNatClampNeg) (g.2.2 ((x3 + 5) : Int32).toNatClampNeg) (g.2.2 ((x3 + 6) : Int32).toNatClampNeg) σ67).bind (fun qy75 => (fun (y75 : Int32) (σ76 : PS) => (if y66 = y75 then fL_law_926 g (fL_law_18 g n) x3 σ76 else some (0, σ76))) qy75.1 qy75.2)))))))) qy66.1 qy66.2))))))) else (if ((g.2.2 (x3 : Int32).toNatClampNeg) &&& 31) = 7 then gd (inb (x3 + 1) g.2.1) ((fX8_bale (g.2.2 ((x3 + 1) : Int32).toNatClampNeg) σ).bind (fun qy79 => (fun (y79 : Int32) (σ80 : PS) => gd (inb (x3 + 1) g.2.1) ((fX9_bale (g.2.2 ((x3 + 1) : Int32).toNatClampNeg) σ80).bind (fun qy83 => (fun (y83 : Int32) (σ84 : PS) => (if y79 = y83 then fL_law_926 g (fL_law_18 g n) x3 σ84 else some (0, σ84))) qy83.1 qy83.2))) qy79.1 qy79.2)) else (if ((g.2.2 (x3 : Int32).toNatClampNeg) &&& 31) = 8 then gd (inb (x3 + 1) g.2.1) (gd (inb (x3 + 2) g.2.1) ((fX8_shut (g.2.2 ((x3 + 1) : Int32).toNatClampNeg) (g.2.2 ((x3 + 2) : Int32).toNatClampNeg) σ).bind (fun qy88 => (fun (y88 : Int32) (σ89 : PS) => gd (inb (x3 + 1) g.2.1) (gd (inb (x3 + 2) g.2.1) ((fX9_shut (g.2.2 ((x3 + 1) : Int32).toNatClampNeg) (g.2.2 ((x3 + 2) : Int32).toNatClampNeg) σ89).bind (fun qy93 => (fun (y93 : Int32) (σ94 : PS) => (if y88 = y93 then fL_law_926 g (fL_law_18 g n) x3 σ94 else some (0, σ94))) qy93.1 qy93.2)))) qy88.1 qy88.2))) else (if ((g.2.2 (x3 : Int32).toNatClampNeg) &&& 31) = 9 then gd (inb (x3 + 1) g.2.1) (gd (inb (x3 + 2) g.2.1) (gd (inb (x3 + 3) g.2.1) ((if (g.2.2 ((x3 + 3) : Int32).toNatClampNeg) = 0 then fL_law_471 g (fL_law_18 g n) x3 (g.2.2 ((x3 + 1) : Int32).toNatClampNeg) (g.2.2 ((x3 + 2) : Int32).toNatClampNeg) 0 σ else fL_law_471 g (fL_law_18 g n) x3 (g.2.2 ((x3 + 1) : Int32).toNatClampNeg) (g.2.2 ((x3 + 2) : Int32).toNatClampNeg) 1 σ)))) else (if ((g.2.2 (x3 : Int32).toNatClampNeg) &&& 31) = 10 then gd (inb (x3 + 1) g.2.1) (gd (inb (x3 + 2) g.2.1) (gd (inb (x3 + 3) g.2.1) (gd (inb (x3 + 4) g.2.1) ((fX8_state (g.2.2 ((x3 + 1) : Int32).toNatClampNeg) (g.2.2 ((x3 + 2) : Int32).toNatClampNeg) (g.2.2 ((x3 + 3) : Int32).toNatClampNeg) (g.2.2 ((x3 + 4) : Int32).toNatClampNeg) σ).bind (fun qy103 => (fun (y103 : Int32) (σ104 : PS) => gd (inb (x3 + 1) g.2.1) (gd (inb (x3 + 2) g.2.1) (gd (inb (x3 + 3) g.2.1) (gd (inb (x3 + 4) g.2.1) ((fX9_state (g.2.2 ((x3 + 1) : Int32).toNatClampNeg) (g.2.2 ((x3 + 2) : Int32).toNatClampNeg) (g.2.2 ((x3 + 3) : Int32).toNatClampNeg) (g.2.2 ((x3 + 4) : Int32).toNatClampNeg) σ104).bind (fun qy110 => (fun (y110 : Int32) (σ111 : PS) => (if y103 = y110 then fL_law_926 g (fL_law_18 g n) x3 σ111 else some (0, σ111))) qy110.1 qy110.2)))))) qy103.1 qy103.2))))) else (if ((g.2.2 (x3 : Int32).toNatClampNeg) &&& 31) = 11 then gd (inb (x3 + 1) g.2.1) (gd (inb (x3 + 2) g.2.1) (gd (inb (x3 + 3) g.2.1) (gd (inb (x3 + 4) g.2.1) ((fX8_house (g.2.2 ((x3 + 1) : Int32).toNatClampNeg) (g.2.2 ((x3 + 2) : Int32).toNatClampNeg) (g.2.2 ((x3 + 3) : Int32).toNatClampNeg) (g.2.2 ((x3 + 4) : Int32).toNatClampNeg) σ).bind (fun qy117 => (fun (y117 : Int32) (σ118 : PS) => gd (inb (x3 + 1) g.2.1) (gd (inb (x3 + 2) g.2.1) (gd (inb (x3 + 3) g.2.1) (gd (inb (x3 + 4) g.2.1) ((fX9_house (g.2.2 ((x3 + 1) : Int32).toNatClampNeg) (g.2.2 ((x3 + 2) : Int32).toNatClampNeg) (g.2.2 ((x3 + 3) : Int32).toNatClampNeg) (g.2.2 ((x3 + 4) : Int32).toNatClampNeg) σ118).bind (fun qy124 => (fun (y124 : Int32) (σ125 : PS) => (if y117 = y124 then fL_law_926 g (fL_law_18 g n) x3 σ125 else some (0, σ125))) qy124.1 qy124.2)))))) qy117.1 qy117.2))))) else (if ((g.2.2 (x3 : Int32).toNatClampNeg) &&& 31) = 12 then gd (inb (x3 + 1) g.2.1) (gd (inb (x3 + 2) g.2.1) (gd (inb (x3 + 3) g.2.1) (gd (inb (x3 + 4) g.2.1) ((fX8_full (g.2.2 ((x3 + 1) : Int32).toNatClampNeg) (g.2.2 ((x3 + 2) : Int32).toNatClampNeg) (g.2.2 ((x3 + 3) : Int32).toNatClampNeg) (g.2.2 ((x3 + 4) : Int32).toNatClampNeg) σ).bind (fun qy131 => (fun (y131 : Int32) (σ132 : PS) => gd (inb (x3 + 1) g.2.1) (gd (inb (x3 + 2) g.2.1) (gd (inb (x3 + 3) g.2.1) (gd (inb (x3 + 4) g.2.1) ((fX9_full (g.2.2 ((x3 + 1) : Int32).toNatClampNeg) (g.2.2 ((x3 + 2) : Int32).toNatClampNeg) (g.2.2 ((x3 + 3) : Int32).toNatClampNeg) (g.2.2 ((x3 + 4) : Int32).toNatClampNeg) σ132).bind (fun qy138 => (fun (y138 : Int32) (σ139 : PS) => (if y131 = y138 then fL_law_926 g (fL_law_18 g n) x3 σ139 else some (0, σ139))) qy138.1 qy138.2)))))) qy131.1 qy131.2))))) else (if ((g.2.2 (x3 : Int32).toNatClampNeg) &&& 31) = 13 then gd (inb (x3 + 1) g.2.1) (gd (inb (x3 + 2) g.2.1) ((fX8_comes (g.2.2 ((x3 + 1) : Int32).toNatClampNeg) (g.2.2 ((x3 + 2) : Int32).toNatClampNeg) σ).bind (fun qy143 => (fun (y143 : Int32) (σ144 : PS) => gd (inb (x3 + 1) g.2.1) (gd (inb (x3 + 2) g.2.1) ((fX9_comes (g.2.2 ((x3 + 1) : Int32).toNatClampNeg) (g.2.2 ((x3 + 2) : Int32).toNatClampNeg) σ144).bind (fun qy148 => (fun (y148 : Int32) (σ149 : PS) => (if y143 = y148 then fL_law_926 g (fL_law_18 g n) x3 σ149 else some (0, σ149))) qy148.1 qy148.2)))) qy143.1 qy143.2))) else (if ((g.2.2 (x3 : Int32).toNatClampNeg) &&& 31) = 14 then gd (inb (x3 + 1) g.2.1) (gd (inb (x3 + 2) g.2.1) (gd (inb (x3 + 3) g.2.1) ((fX8_barred (g.2.2 ((x3 + 1) : Int32).toNatClampNeg) (g.2.2 ((x3 + 2) : Int32).toNatClampNeg) (g.2.2 ((x3 + 3) : Int32).toNatClampNeg) σ).bind (fun qy154 => (fun (y154 : Int32) (σ155 : PS) => gd (inb (x3 + 1) g.2.1) (gd (inb (x3 + 2) g.2.1) (gd (inb (x3 + 3) g.2.1) ((fX9_barred (g.2.2 ((x3 + 1) : Int32).toNatClampNeg) (g.2.2 ((x3 + 2) : Int32).toNatClampNeg) (g.2.2 ((x3 + 3) : Int32).toNatClampNeg) σ155).bind (fun qy160 => (fun (y160 : Int32) (σ161 : PS) => (if y154 = y160 then fL_law_926 g (fL_law_18 g n) x3 σ161 else some (0, σ161))) qy160.1 qy160.2))))) qy154.1 qy154.2)))) else (if ((g.2.2 (x3 : Int32).toNatClampNeg) &&& 31) = 15 then gd (inb (x3 + 1) g.2.1) (gd (inb (x3 + 2) g.2.1) ((fX8_could (g.2.2 ((x3 + 1) : Int32).toNatClampNeg) (g.2.2 ((x3 + 2) : Int32).toNatClampNeg) σ).bind (fun qy165 => (fun (y165 : Int32) (σ166 : PS) => gd (inb (x3 + 1) g.2.1) (gd (inb (x3 + 2) g.2.1) ((fX9_could (g.2.2 ((x3 + 1) : Int32).toNatClampNeg) (g.2.2 ((x3 + 2) : Int32).toNatClampNeg) σ166).bind (fun qy170 => (fun (y170 : Int32) (σ171 : PS) => (if y165 = y170 then fL_law_926 g (fL_law_18 g n) x3 σ171 else some (0, σ171))) qy170.1 qy170.2)))) qy165.1 qy165.2))) else (if ((g.2.2 (x3 : Int32).toNatClampNeg) &&& 31) = 16 then gd (inb (x3 + 1) g.2.1) (gd (inb (x3 + 2) g.2.1) (gd (inb (x3 + 3) g.2.1) ((fX8_sealed (g.2.2 ((x3 + 1) : Int32).toNatClampNeg) (g.2.2 ((x3 + 2) : Int32).toNatClampNeg) (g.2.2 ((x3 + 3) : Int32).toNatClampNeg) σ).bind (fun qy176 => (fun (y176 : Int32) (σ177 : PS) => gd (inb (x3 + 1) g.2.1) (gd (inb (x3 + 2) g.2.1) (gd (inb (x3 + 3) g.2.1) ((fX9_sealed (g.2.2 ((x3 + 1) : Int32).toNatClampNeg) (g.2.2 ((x3 + 2) : Int32).toNatClampNeg) (g.2.2 ((x3 + 3) : Int32).toNatClampNeg) σ177).bind (fun qy182 => (fun (y182 : Int32) (σ183 : PS) => (if y176 = y182 then fL_law_926 g (fL_law_18 g n) x3 σ183 else some (0, σ183))) qy182.1 qy182.2))))) qy176.1 qy176.2)))) else (if ((g.2.2 (x3 : Int32).toNatClampNeg) &&& 31) = 17 then gd (inb (x3 + 1) g.2.1) (gd (inb (x3 + 2) g.2.1) (gd (inb (x3 + 3) g.2.1) ((fX8_tolls (g.2.2 ((x3 + 1) : Int32).toNatClampNeg) (g.2.2 ((x3 + 2) : Int32).toNatClampNeg) (g.2.2 ((x3 + 3) : Int32).toNatClampNeg) σ).bind (fun qy188 => (fun (y188 : Int32) (σ189 : PS) => gd (inb (x3 + 1) g.2.1) (gd (inb (x3 + 2) g.2.1) (gd (inb (x3 + 3) g.2.1) ((fX9_tolls (g.2.2 ((x3 + 1) : Int32).toNatClampNeg) (g.2.2 ((x3 + 2) : Int32).toNatClampNeg) (g.2.2 ((x3 + 3) : Int32).toNatClampNeg) σ189).bind (fun qy194 => (fun (y194 : Int32) (σ195 : PS) => (if y188 = y194 then fL_law_926 g (fL_law_18 g n) x3 σ195 else some (0, σ195))) qy194.1 qy194.2))))) qy188.1 qy188.2)))) else (if ((g.2.2 (x3 : Int32).toNatClampNeg) &&& 31) = 18 then gd (inb (x3 + 1) g.2.1) (gd (inb (x3 + 2) g.2.1) (gd (inb (x3 + 3) g.2.1) ((fX8_crowded (g.2.2 ((x3 + 1) : Int32).toNatClampNeg) (g.2.2 ((x3 + 2) : Int32).toNatClampNeg) (g.2.2 ((x3 + 3) : Int32).toNatClampNeg) σ).bind (fun qy200 => (fun (y200 : Int32) (σ201 : PS) => gd (inb (x3 + 1) g.2.1) (gd (inb (x3 + 2) g.2.1) (gd (inb (x3 + 3) g.2.1) ((fX9_crowded (g.2.2 ((x3 + 1) : Int32).toNatClampNeg) (g.2.2 ((x3 + 2) : Int32).toNatClampNeg) (g.2.2 ((x3 + 3) : Int32).toNatClampNeg) σ201).bind (fun qy206 => (fun (y206 : Int32) (σ207 : PS) => (if y200 = y206 then fL_law_926 g (fL_law_18 g n) x3 σ207 else some (0, σ207))) qy206.1 qy206.2))))) qy200.1 qy200.2)))) else (if ((g.2.2 (x3 : Int32).toNatClampNeg) &&& 31) = 19 then gd (inb (x3 + 1) g.2.1) ((fX8_count (g.2.2 ((x3 + 1) : Int32).toNatClampNeg) σ).bind (fun qy210 => (fun (y210 : Int32) (σ211 : PS) => gd (inb (x3 + 1) g.2.1) ((fX9_count (g.2.2 ((x3 + 1) : Int32).toNatClampNeg) σ211).bind (fun qy214 => (fun (y214 : Int32) (σ215 : PS) => (if y210 = y214 then fL_law_926 g (fL_law_18 g n) x3 σ215 else some (0, σ215))) qy214.1 qy214.2))) qy210.1 qy210.2)) else fL_law_926 g (fL_law_18 g n) x3 σ))))))))))))))))))))))
set_option maxRecDepth 100000 in
set_option maxHeartbeats 4000000 in
theorem tL_law_18 {P : Int32 × PS → Prop} : ∀ (n : Nat) (x3 : Int32) (σ : PS), hO (fL_law_18 g n x3 σ) P → X g mL_law 20 0 0 (pI P) 18 [(0, .ref (SB + 2)), (1, .ref 0), (2, .ref 132), (3, .int x3)] [] (HP σ) := by
  intro n
  induction n with
  | zero =>
    intro x3 σ h
    rw [fL_law_18] at h
    exact (hO_none h).elim
  | succ n ih =>
    intro x3 σ h
    rw [fL_law_18] at h
    refine X_iload_n 3 rfl (dk KL_law_0 10 rfl) ?_
    refine X_aload_n 0 rfl (dk KL_law_0 11 rfl) ?_
    refine X_slen (dk KL_law_0 12 rfl) ?_
    refine X_bipush (dk KL_law_0 13 rfl) 7 (by decide) ?_
    refine X_isub (dk KL_law_0 14 rfl) ?_
    refine X_icmp_gt 932 (dk KL_law_0 15 rfl) (by decide) (fun hc => ?_) (fun hc => ?_)
    · have h := hO_t hc h
      refine X_iconst (dk KL_law_13 42 rfl) 1 (by decide) ?_
      exact Y_zret (dk KL_law_13 43 rfl) rfl (by decide) h
    · have h := hO_f hc h
      refine X_aload_n 0 rfl (dk KL_law_0 16 rfl) ?_
      refine X_iload_n 3 rfl (dk KL_law_0 17 rfl) ?_
      refine Y_sld (dk KL_law_0 18 rfl) h (fun hi1 h => ?_)
      refine X_bipush (dk KL_law_0 19 rfl) 31 (by decide) ?_
      refine X_iand (dk KL_law_0 20 rfl) ?_
      by_cases hs0 : ((g.2.2 (x3 : Int32).toNatClampNeg) &&& 31) = (0 : Int32)
      · have h := hO_t hs0 h
        refine Y_tab 0 hs0 128 (dk KL_law_0 21 rfl) (by decide) (by decide) rfl (by decide) ?_
        refine X_aload_n 1 rfl (dk KL_law_0 22 rfl) ?_
        refine X_aload_n 0 rfl (dk KL_law_0 23 rfl) ?_
        refine X_iload_n 3 rfl (dk KL_law_0 24 rfl) ?_
        refine X_iconst (dk KL_law_0 25 rfl) 1 (by decide) ?_
        refine X_iadd (dk KL_law_0 26 rfl) ?_
        refine Y_sld (dk KL_law_0 27 rfl) h (fun hi2 h => ?_)
        refine X_aload_n 0 rfl (dk KL_law_0 28 rfl) ?_
        refine X_iload_n 3 rfl (dk KL_law_0 29 rfl) ?_
        refine X_iconst (dk KL_law_0 30 rfl) 2 (by decide) ?_
        refine X_iadd (dk KL_law_0 31 rfl) ?_
        refine Y_sld (dk KL_law_0 32 rfl) h (fun hi3 h => ?_)
        refine X_aload_n 0 rfl (dk KL_law_0 33 rfl) ?_
        refine X_iload_n 3 rfl (dk KL_law_0 34 rfl) ?_
        refine X_iconst (dk KL_law_0 35 rfl) 3 (by decide) ?_
        refine X_iadd (dk KL_law_0 36 rfl) ?_
        refine Y_sld (dk KL_law_0 37 rfl) h (fun hi4 h => ?_)
        refine X_aload_n 0 rfl (dk KL_law_0 38 rfl) ?_
        refine X_iload_n 3 rfl (dk KL_law_0 39 rfl) ?_
        refine X_iconst (dk KL_law_0 40 rfl) 4 (by decide) ?_
        refine X_iadd (dk KL_law_0 41 rfl) ?_
        refine Y_sld (dk KL_law_0 42 rfl) h (fun hi5 h => ?_)
        refine X_aload_n 0 rfl (dk KL_law_0 43 rfl) ?_
        refine X_iload_n 3 rfl (dk KL_law_0 44 rfl) ?_
        refine X_iconst (dk KL_law_0 45 rfl) 5 (by decide) ?_
        refine X_iadd (dk KL_law_0 46 rfl) ?_
        refine Y_sld (dk KL_law_0 47 rfl) h (fun hi6 h => ?_)
        refine Y_callVI wL_13 (Nat.le_of_ble_eq_true rfl) rfl [.int (g.2.2 ((x3 + 1) : Int32).toNatClampNeg), .int (g.2.2 ((x3 + 2) : Int32).toNatClampNeg), .int (g.2.2 ((x3 + 3) : Int32).toNatClampNeg), .int (g.2.2 ((x3 + 4) : Int32).toNatClampNeg), .int (g.2.2 ((x3 + 5) : Int32).toNatClampNeg)] [] rfl rfl (Nat.le_of_ble_eq_true rfl) (Nat.le_of_ble_eq_true rfl) (dk KL_law_0 48 rfl) (fun Pc h => okX8_feed _ _ _ _ _ _ Pc h) h (fun y7 σ8 e9 h => ?_)
        try dsimp only at h
        refine X_aload_n 2 rfl (dk KL_law_0 49 rfl) ?_
        refine X_aload_n 0 rfl (dk KL_law_1 0 rfl) ?_
        refine X_iload_n 3 rfl (dk KL_law_1 1 rfl) ?_
        refine X_iconst (dk KL_law_1 2 rfl) 1 (by decide) ?_
        refine X_iadd (dk KL_law_1 3 rfl) ?_
        refine Y_sld (dk KL_law_1 4 rfl) h (fun hi10 h => ?_)
        refine X_aload_n 0 rfl (dk KL_law_1 5 rfl) ?_
        refine X_iload_n 3 rfl (dk KL_law_1 6 rfl) ?_
        refine X_iconst (dk KL_law_1 7 rfl) 2 (by decide) ?_
        refine X_iadd (dk KL_law_1 8 rfl) ?_
        refine Y_sld (dk KL_law_1 9 rfl) h (fun hi11 h => ?_)
        refine X_aload_n 0 rfl (dk KL_law_1 10 rfl) ?_
        refine X_iload_n 3 rfl (dk KL_law_1 11 rfl) ?_
        refine X_iconst (dk KL_law_1 12 rfl) 3 (by decide) ?_
        refine X_iadd (dk KL_law_1 13 rfl) ?_
        refine Y_sld (dk KL_law_1 14 rfl) h (fun hi12 h => ?_)
        refine X_aload_n 0 rfl (dk KL_law_1 15 rfl) ?_
        refine X_iload_n 3 rfl (dk KL_law_1 16 rfl) ?_
        refine X_iconst (dk KL_law_1 17 rfl) 4 (by decide) ?_
        refine X_iadd (dk KL_law_1 18 rfl) ?_
        refine Y_sld (dk KL_law_1 19 rfl) h (fun hi13 h => ?_)
        refine X_aload_n 0 rfl (dk KL_law_1 20 rfl) ?_
        refine X_iload_n 3 rfl (dk KL_law_1 21 rfl) ?_
        refine X_iconst (dk KL_law_1 22 rfl) 5 (by decide) ?_
        refine X_iadd (dk KL_law_1 23 rfl) ?_
        refine Y_sld (dk KL_law_1 24 rfl) h (fun hi14 h => ?_)
        refine Y_callVI wL_17 (Nat.le_of_ble_eq_true rfl) rfl [.int (g.2.2 ((x3 + 1) : Int32).toNatClampNeg), .int (g.2.2 ((x3 + 2) : Int32).toNatClampNeg), .int (g.2.2 ((x3 + 3) : Int32).toNatClampNeg), .int (g.2.2 ((x3 + 4) : Int32).toNatClampNeg), .int (g.2.2 ((x3 + 5) : Int32).toNatClampNeg)] [.int y7] rfl rfl (Nat.le_of_ble_eq_true rfl) (Nat.le_of_ble_eq_true rfl) (dk KL_law_1 25 rfl) (fun Pc h => okX9_feed _ _ _ _ _ _ Pc h) h (fun y15 σ16 e17 h => ?_)
        try dsimp only at h
        refine X_icmp_eq 926 (dk KL_law_1 26 rfl) (by decide) (fun hc => ?_) (fun hc => ?_)
        · have h := hO_t hc h
          exact tL_law_926 ih x3 σ16 h
        · have h := hO_f hc h
          refine X_iconst (dk KL_law_1 27 rfl) 0 (by decide) ?_
          exact Y_zret (dk KL_law_1 28 rfl) rfl (by decide) h
      have h := hO_f hs0 h
      by_cases hs1 : ((g.2.2 (x3 : Int32).toNatClampNeg) &&& 31) = (1 : Int32)
      · have h := hO_t hs1 h
        refine Y_tab 1 hs1 191 (dk KL_law_0 21 rfl) (by decide) (by decide) rfl (by decide) ?_
        refine X_aload_n 1 rfl (dk KL_law_1 29 rfl) ?_
        refine X_aload_n 0 rfl (dk KL_law_1 30 rfl) ?_
        refine X_iload_n 3 rfl (dk KL_law_1 31 rfl) ?_
        refine X_iconst (dk KL_law_1 32 rfl) 1 (by decide) ?_
        refine X_iadd (dk KL_law_1 33 rfl) ?_
        refine Y_sld (dk KL_law_1 34 rfl) h (fun hi18 h => ?_)
        refine Y_callVI wL_18 (Nat.le_of_ble_eq_true rfl) rfl [.int (g.2.2 ((x3 + 1) : Int32).toNatClampNeg)] [] rfl rfl (Nat.le_of_ble_eq_true rfl) (Nat.le_of_ble_eq_true rfl) (dk KL_law_1 35 rfl) (fun Pc h => okX8_back _ _ Pc h) h (fun y19 σ20 e21 h => ?_)
        try dsimp only at h
        refine X_aload_n 2 rfl (dk KL_law_1 36 rfl) ?_
        refine X_aload_n 0 rfl (dk KL_law_1 37 rfl) ?_
        refine X_iload_n 3 rfl (dk KL_law_1 38 rfl) ?_
        refine X_iconst (dk KL_law_1 39 rfl) 1 (by decide) ?_
        refine X_iadd (dk KL_law_1 40 rfl) ?_
        refine Y_sld (dk KL_law_1 41 rfl) h (fun hi22 h => ?_)
        refine Y_callVI wL_22 (Nat.le_of_ble_eq_true rfl) rfl [.int (g.2.2 ((x3 + 1) : Int32).toNatClampNeg)] [.int y19] rfl rfl (Nat.le_of_ble_eq_true rfl) (Nat.le_of_ble_eq_true rfl) (dk KL_law_1 42 rfl) (fun Pc h => okX9_back _ _ Pc h) h (fun y23 σ24 e25 h => ?_)
        try dsimp only at h
        refine X_icmp_eq 926 (dk KL_law_1 43 rfl) (by decide) (fun hc => ?_) (fun hc => ?_)
        · have h := hO_t hc h
          exact tL_law_926 ih x3 σ24 h
        · have h := hO_f hc h
          refine X_iconst (dk KL_law_1 44 rfl) 0 (by decide) ?_
          exact Y_zret (dk KL_law_1 45 rfl) rfl (by decide) h
      have h := hO_f hs1 h
      by_cases hs2 : ((g.2.2 (x3 : Int32).toNatClampNeg) &&& 31) = (2 : Int32)
      · have h := hO_t hs2 h
        refine Y_tab 2 hs2 214 (dk KL_law_0 21 rfl) (by decide) (by decide) rfl (by decide) ?_
        refine X_aload_n 1 rfl (dk KL_law_1 46 rfl) ?_
        refine Y_callVI wL_23 (Nat.le_of_ble_eq_true rfl) rfl [] [] rfl rfl (Nat.le_of_ble_eq_true rfl) (Nat.le_of_ble_eq_true rfl) (dk KL_law_1 47 rfl) (fun Pc h => okX8_read _ Pc h) h (fun y26 σ27 e28 h => ?_)
        try dsimp only at h
        refine X_aload_n 2 rfl (dk KL_law_1 48 rfl) ?_
        refine Y_callVI wL_27 (Nat.le_of_ble_eq_true rfl) rfl [] [.int y26] rfl rfl (Nat.le_of_ble_eq_true rfl) (Nat.le_of_ble_eq_true rfl) (dk KL_law_1 49 rfl) (fun Pc h => okX9_read _ Pc h) h (fun y29 σ30 e31 h => ?_)
        try dsimp only at h
        refine X_icmp_eq 926 (dk KL_law_2 0 rfl) (by decide) (fun hc => ?_) (fun hc => ?_)
        · have h := hO_t hc h
          exact tL_law_926 ih x3 σ30 h
        · have h := hO_f hc h
          refine X_iconst (dk KL_law_2 1 rfl) 0 (by decide) ?_
          exact Y_zret (dk KL_law_2 2 rfl) rfl (by decide) h
      have h := hO_f hs2 h
      by_cases hs3 : ((g.2.2 (x3 : Int32).toNatClampNeg) &&& 31) = (3 : Int32)
      · have h := hO_t hs3 h
        refine Y_tab 3 hs3 227 (dk KL_law_0 21 rfl) (by decide) (by decide) rfl (by decide) ?_
        refine X_aload_n 1 rfl (dk KL_law_2 3 rfl) ?_
        refine Y_callVI wL_28 (Nat.le_of_ble_eq_true rfl) rfl [] [] rfl rfl (Nat.le_of_ble_eq_true rfl) (Nat.le_of_ble_eq_true rfl) (dk KL_law_2 4 rfl) (fun Pc h => okX8_place _ Pc h) h (fun y32 σ33 e34 h => ?_)
        try dsimp only at h
        refine X_aload_n 2 rfl (dk KL_law_2 5 rfl) ?_
        refine Y_callVI wL_31 (Nat.le_of_ble_eq_true rfl) rfl [] [.int y32] rfl rfl (Nat.le_of_ble_eq_true rfl) (Nat.le_of_ble_eq_true rfl) (dk KL_law_2 6 rfl) (fun Pc h => okX9_place _ Pc h) h (fun y35 σ36 e37 h => ?_)
        try dsimp only at h
        refine X_icmp_eq 926 (dk KL_law_2 7 rfl) (by decide) (fun hc => ?_) (fun hc => ?_)
        · have h := hO_t hc h
          exact tL_law_926 ih x3 σ36 h
        · have h := hO_f hc h
          refine X_iconst (dk KL_law_2 8 rfl) 0 (by decide) ?_
          exact Y_zret (dk KL_law_2 9 rfl) rfl (by decide) h
      have h := hO_f hs3 h
      by_cases hs4 : ((g.2.2 (x3 : Int32).toNatClampNeg) &&& 31) = (4 : Int32)
      · have h := hO_t hs4 h
        refine Y_tab 4 hs4 240 (dk KL_law_0 21 rfl) (by decide) (by decide) rfl (by decide) ?_
        refine X_aload_n 1 rfl (dk KL_law_2 10 rfl) ?_
        refine X_aload_n 0 rfl (dk KL_law_2 11 rfl) ?_
        refine X_iload_n 3 rfl (dk KL_law_2 12 rfl) ?_
        refine X_iconst (dk KL_law_2 13 rfl) 1 (by decide) ?_
        refine X_iadd (dk KL_law_2 14 rfl) ?_
        refine Y_sld (dk KL_law_2 15 rfl) h (fun hi38 h => ?_)
        refine X_aload_n 0 rfl (dk KL_law_2 16 rfl) ?_
        refine X_iload_n 3 rfl (dk KL_law_2 17 rfl) ?_
        refine X_iconst (dk KL_law_2 18 rfl) 2 (by decide) ?_
        refine X_iadd (dk KL_law_2 19 rfl) ?_
        refine Y_sld (dk KL_law_2 20 rfl) h (fun hi39 h => ?_)
        refine X_aload_n 0 rfl (dk KL_law_2 21 rfl) ?_
        refine X_iload_n 3 rfl (dk KL_law_2 22 rfl) ?_
        refine X_iconst (dk KL_law_2 23 rfl) 3 (by decide) ?_
        refine X_iadd (dk KL_law_2 24 rfl) ?_
        refine Y_sld (dk KL_law_2 25 rfl) h (fun hi40 h => ?_)
        refine Y_callVI wL_32 (Nat.le_of_ble_eq_true rfl) rfl [.int (g.2.2 ((x3 + 1) : Int32).toNatClampNeg), .int (g.2.2 ((x3 + 2) : Int32).toNatClampNeg), .int (g.2.2 ((x3 + 3) : Int32).toNatClampNeg)] [] rfl rfl (Nat.le_of_ble_eq_true rfl) (Nat.le_of_ble_eq_true rfl) (dk KL_law_2 26 rfl) (fun Pc h => okX8_inn _ _ _ _ Pc h) h (fun y41 σ42 e43 h => ?_)
        try dsimp only at h
        refine X_aload_n 2 rfl (dk KL_law_2 27 rfl) ?_
        refine X_aload_n 0 rfl (dk KL_law_2 28 rfl) ?_
        refine X_iload_n 3 rfl (dk KL_law_2 29 rfl) ?_
        refine X_iconst (dk KL_law_2 30 rfl) 1 (by decide) ?_
        refine X_iadd (dk KL_law_2 31 rfl) ?_
        refine Y_sld (dk KL_law_2 32 rfl) h (fun hi44 h => ?_)
        refine X_aload_n 0 rfl (dk KL_law_2 33 rfl) ?_
        refine X_iload_n 3 rfl (dk KL_law_2 34 rfl) ?_
        refine X_iconst (dk KL_law_2 35 rfl) 2 (by decide) ?_
        refine X_iadd (dk KL_law_2 36 rfl) ?_
        refine Y_sld (dk KL_law_2 37 rfl) h (fun hi45 h => ?_)
        refine X_aload_n 0 rfl (dk KL_law_2 38 rfl) ?_
        refine X_iload_n 3 rfl (dk KL_law_2 39 rfl) ?_
        refine X_iconst (dk KL_law_2 40 rfl) 3 (by decide) ?_
        refine X_iadd (dk KL_law_2 41 rfl) ?_
        refine Y_sld (dk KL_law_2 42 rfl) h (fun hi46 h => ?_)
        refine Y_callVI wL_36 (Nat.le_of_ble_eq_true rfl) rfl [.int (g.2.2 ((x3 + 1) : Int32).toNatClampNeg), .int (g.2.2 ((x3 + 2) : Int32).toNatClampNeg), .int (g.2.2 ((x3 + 3) : Int32).toNatClampNeg)] [.int y41] rfl rfl (Nat.le_of_ble_eq_true rfl) (Nat.le_of_ble_eq_true rfl) (dk KL_law_2 43 rfl) (fun Pc h => okX9_inn _ _ _ _ Pc h) h (fun y47 σ48 e49 h => ?_)
        try dsimp only at h
        refine X_icmp_eq 926 (dk KL_law_2 44 rfl) (by decide) (fun hc => ?_) (fun hc => ?_)
        · have h := hO_t hc h
          exact tL_law_926 ih x3 σ48 h
        · have h := hO_f hc h
          refine X_iconst (dk KL_law_2 45 rfl) 0 (by decide) ?_
          exact Y_zret (dk KL_law_2 46 rfl) rfl (by decide) h
      have h := hO_f hs4 h
      by_cases hs5 : ((g.2.2 (x3 : Int32).toNatClampNeg) &&& 31) = (5 : Int32)
      · have h := hO_t hs5 h
        refine Y_tab 5 hs5 283 (dk KL_law_0 21 rfl) (by decide) (by decide) rfl (by decide) ?_
        refine X_aload_n 1 rfl (dk KL_law_2 47 rfl) ?_
        refine X_aload_n 0 rfl (dk KL_law_2 48 rfl) ?_
        refine X_iload_n 3 rfl (dk KL_law_2 49 rfl) ?_
        refine X_iconst (dk KL_law_3 0 rfl) 1 (by decide) ?_
        refine X_iadd (dk KL_law_3 1 rfl) ?_
        refine Y_sld (dk KL_law_3 2 rfl) h (fun hi50 h => ?_)
        refine X_aload_n 0 rfl (dk KL_law_3 3 rfl) ?_
        refine X_iload_n 3 rfl (dk KL_law_3 4 rfl) ?_
        refine X_iconst (dk KL_law_3 5 rfl) 2 (by decide) ?_
        refine X_iadd (dk KL_law_3 6 rfl) ?_
        refine Y_sld (dk KL_law_3 7 rfl) h (fun hi51 h => ?_)
        refine Y_callVI wL_37 (Nat.le_of_ble_eq_true rfl) rfl [.int (g.2.2 ((x3 + 1) : Int32).toNatClampNeg), .int (g.2.2 ((x3 + 2) : Int32).toNatClampNeg)] [] rfl rfl (Nat.le_of_ble_eq_true rfl) (Nat.le_of_ble_eq_true rfl) (dk KL_law_3 8 rfl) (fun Pc h => okX8_room _ _ _ Pc h) h (fun y52 σ53 e54 h => ?_)
        try dsimp only at h
        refine X_aload_n 2 rfl (dk KL_law_3 9 rfl) ?_
        refine X_aload_n 0 rfl (dk KL_law_3 10 rfl) ?_
        refine X_iload_n 3 rfl (dk KL_law_3 11 rfl) ?_
        refine X_iconst (dk KL_law_3 12 rfl) 1 (by decide) ?_
        refine X_iadd (dk KL_law_3 13 rfl) ?_
        refine Y_sld (dk KL_law_3 14 rfl) h (fun hi55 h => ?_)
        refine X_aload_n 0 rfl (dk KL_law_3 15 rfl) ?_
        refine X_iload_n 3 rfl (dk KL_law_3 16 rfl) ?_
        refine X_iconst (dk KL_law_3 17 rfl) 2 (by decide) ?_
        refine X_iadd (dk KL_law_3 18 rfl) ?_
        refine Y_sld (dk KL_law_3 19 rfl) h (fun hi56 h => ?_)
        refine Y_callVI wL_41 (Nat.le_of_ble_eq_true rfl) rfl [.int (g.2.2 ((x3 + 1) : Int32).toNatClampNeg), .int (g.2.2 ((x3 + 2) : Int32).toNatClampNeg)] [.int y52] rfl rfl (Nat.le_of_ble_eq_true rfl) (Nat.le_of_ble_eq_true rfl) (dk KL_law_3 20 rfl) (fun Pc h => okX9_room _ _ _ Pc h) h (fun y57 σ58 e59 h => ?_)
        try dsimp only at h
        refine X_icmp_eq 926 (dk KL_law_3 21 rfl) (by decide) (fun hc => ?_) (fun hc => ?_)
        · have h := hO_t hc h
          exact tL_law_926 ih x3 σ58 h
        · have h := hO_f hc h
          refine X_iconst (dk KL_law_3 22 rfl) 0 (by decide) ?_
          exact Y_zret (dk KL_law_3 23 rfl) rfl (by decide) h
      have h := hO_f hs5 h
      by_cases hs6 : ((g.2.2 (x3 : Int32).toNatClampNeg) &&& 31) = (6 : Int32)
      · have h := hO_t hs6 h
        refine Y_tab 6 hs6 316 (dk KL_law_0 21 rfl) (by decide) (by decide) rfl (by decide) ?_
        refine X_aload_n 1 rfl (dk KL_law_3 24 rfl) ?_
        refine X_aload_n 0 rfl (dk KL_law_3 25 rfl) ?_
        refine X_iload_n 3 rfl (dk KL_law_3 26 rfl) ?_
        refine X_iconst (dk KL_law_3 27 rfl) 1 (by decide) ?_
        refine X_iadd (dk KL_law_3 28 rfl) ?_
        refine Y_sld (dk KL_law_3 29 rfl) h (fun hi60 h => ?_)
        refine X_aload_n 0 rfl (dk KL_law_3 30 rfl) ?_
        refine X_iload_n 3 rfl (dk KL_law_3 31 rfl) ?_
        refine X_iconst (dk KL_law_3 32 rfl) 2 (by decide) ?_
        refine X_iadd (dk KL_law_3 33 rfl) ?_
        refine Y_sld (dk KL_law_3 34 rfl) h (fun hi61 h => ?_)
        refine X_aload_n 0 rfl (dk KL_law_3 35 rfl) ?_
        refine X_iload_n 3 rfl (dk KL_law_3 36 rfl) ?_
        refine X_iconst (dk KL_law_3 37 rfl) 3 (by decide) ?_
        refine X_iadd (dk KL_law_3 38 rfl) ?_
        refine Y_sld (dk KL_law_3 39 rfl) h (fun hi62 h => ?_)
        refine X_aload_n 0 rfl (dk KL_law_3 40 rfl) ?_
        refine X_iload_n 3 rfl (dk KL_law_3 41 rfl) ?_
        refine X_iconst (dk KL_law_3 42 rfl) 4 (by decide) ?_
        refine X_iadd (dk KL_law_3 43 rfl) ?_
        refine Y_sld (dk KL_law_3 44 rfl) h (fun hi63 h => ?_)
        refine X_aload_n 0 rfl (dk KL_law_3 45 rfl) ?_
        refine X_iload_n 3 rfl (dk KL_law_3 46 rfl) ?_
        refine X_iconst (dk KL_law_3 47 rfl) 5 (by decide) ?_
        refine X_iadd (dk KL_law_3 48 rfl) ?_
        refine Y_sld (dk KL_law_3 49 rfl) h (fun hi64 h => ?_)
        refine X_aload_n 0 rfl (dk KL_law_4 0 rfl) ?_
        refine X_iload_n 3 rfl (dk KL_law_4 1 rfl) ?_
        refine X_bipush (dk KL_law_4 2 rfl) 6 (by decide) ?_
        refine X_iadd (dk KL_law_4 3 rfl) ?_
        refine Y_sld (dk KL_law_4 4 rfl) h (fun hi65 h => ?_)
        refine Y_callVI wL_42 (Nat.le_of_ble_eq_true rfl) rfl [.int (g.2.2 ((x3 + 1) : Int32).toNatClampNeg), .int (g.2.2 ((x3 + 2) : Int32).toNatClampNeg), .int (g.2.2 ((x3 + 3) : Int32).toNatClampNeg), .int (g.2.2 ((x3 + 4) : Int32).toNatClampNeg), .int (g.2.2 ((x3 + 5) : Int32).toNatClampNeg), .int (g.2.2 ((x3 + 6) : Int32).toNatClampNeg)] [] rfl rfl (Nat.le_of_ble_eq_true rfl) (Nat.le_of_ble_eq_true rfl) (dk KL_law_4 5 rfl) (fun Pc h => okX8_caravan _ _ _ _ _ _ _ Pc h) h (fun y66 σ67 e68 h => ?_)
        try dsimp only at h
        refine X_aload_n 2 rfl (dk KL_law_4 6 rfl) ?_
        refine X_aload_n 0 rfl (dk KL_law_4 7 rfl) ?_
        refine X_iload_n 3 rfl (dk KL_law_4 8 rfl) ?_
        refine X_iconst (dk KL_law_4 9 rfl) 1 (by decide) ?_
        refine X_iadd (dk KL_law_4 10 rfl) ?_
        refine Y_sld (dk KL_law_4 11 rfl) h (fun hi69 h => ?_)
        refine X_aload_n 0 rfl (dk KL_law_4 12 rfl) ?_
        refine X_iload_n 3 rfl (dk KL_law_4 13 rfl) ?_
        refine X_iconst (dk KL_law_4 14 rfl) 2 (by decide) ?_
        refine X_iadd (dk KL_law_4 15 rfl) ?_
        refine Y_sld (dk KL_law_4 16 rfl) h (fun hi70 h => ?_)
        refine X_aload_n 0 rfl (dk KL_law_4 17 rfl) ?_
        refine X_iload_n 3 rfl (dk KL_law_4 18 rfl) ?_
        refine X_iconst (dk KL_law_4 19 rfl) 3 (by decide) ?_
        refine X_iadd (dk KL_law_4 20 rfl) ?_
        refine Y_sld (dk KL_law_4 21 rfl) h (fun hi71 h => ?_)
        refine X_aload_n 0 rfl (dk KL_law_4 22 rfl) ?_
        refine X_iload_n 3 rfl (dk KL_law_4 23 rfl) ?_
        refine X_iconst (dk KL_law_4 24 rfl) 4 (by decide) ?_
        refine X_iadd (dk KL_law_4 25 rfl) ?_
        refine Y_sld (dk KL_law_4 26 rfl) h (fun hi72 h => ?_)
        refine X_aload_n 0 rfl (dk KL_law_4 27 rfl) ?_
        refine X_iload_n 3 rfl (dk KL_law_4 28 rfl) ?_
        refine X_iconst (dk KL_law_4 29 rfl) 5 (by decide) ?_
        refine X_iadd (dk KL_law_4 30 rfl) ?_
        refine Y_sld (dk KL_law_4 31 rfl) h (fun hi73 h => ?_)
        refine X_aload_n 0 rfl (dk KL_law_4 32 rfl) ?_
        refine X_iload_n 3 rfl (dk KL_law_4 33 rfl) ?_
        refine X_bipush (dk KL_law_4 34 rfl) 6 (by decide) ?_
        refine X_iadd (dk KL_law_4 35 rfl) ?_
        refine Y_sld (dk KL_law_4 36 rfl) h (fun hi74 h => ?_)
        refine Y_callVI wL_46 (Nat.le_of_ble_eq_true rfl) rfl [.int (g.2.2 ((x3 + 1) : Int32).toNatClampNeg), .int (g.2.2 ((x3 + 2) : Int32).toNatClampNeg), .int (g.2.2 ((x3 + 3) : Int32).toNatClampNeg), .int (g.2.2 ((x3 + 4) : Int32).toNatClampNeg), .int (g.2.2 ((x3 + 5) : Int32).toNatClampNeg), .int (g.2.2 ((x3 + 6) : Int32).toNatClampNeg)] [.int y66] rfl rfl (Nat.le_of_ble_eq_true rfl) (Nat.le_of_ble_eq_true rfl) (dk KL_law_4 37 rfl) (fun Pc h => okX9_caravan _ _ _ _ _ _ _ Pc h) h (fun y75 σ76 e77 h => ?_)
        try dsimp only at h
        refine X_icmp_eq 926 (dk KL_law_4 38 rfl) (by decide) (fun hc => ?_) (fun hc => ?_)
        · have h := hO_t hc h
          exact tL_law_926 ih x3 σ76 h
        · have h := hO_f hc h
          refine X_iconst (dk KL_law_4 39 rfl) 0 (by decide) ?_
          exact Y_zret (dk KL_law_4 40 rfl) rfl (by decide) h
      have h := hO_f hs6 h
      by_cases hs7 : ((g.2.2 (x3 : Int32).toNatClampNeg) &&& 31) = (7 : Int32)
      · have h := hO_t hs7 h
        refine Y_tab 7 hs7 391 (dk KL_law_0 21 rfl) (by decide) (by decide) rfl (by decide) ?_
        refine X_aload_n 1 rfl (dk KL_law_4 41 rfl) ?_
        refine X_aload_n 0 rfl (dk KL_law_4 42 rfl) ?_
        refine X_iload_n 3 rfl (dk KL_law_4 43 rfl) ?_
        refine X_iconst (dk KL_law_4 44 rfl) 1 (by decide) ?_
        refine X_iadd (dk KL_law_4 45 rfl) ?_
        refine Y_sld (dk KL_law_4 46 rfl) h (fun hi78 h => ?_)
        refine Y_callVI wL_47 (Nat.le_of_ble_eq_true rfl) rfl [.int (g.2.2 ((x3 + 1) : Int32).toNatClampNeg)] [] rfl rfl (Nat.le_of_ble_eq_true rfl) (Nat.le_of_ble_eq_true rfl) (dk KL_law_4 47 rfl) (fun Pc h => okX8_bale _ _ Pc h) h (fun y79 σ80 e81 h => ?_)
        try dsimp only at h
        refine X_aload_n 2 rfl (dk KL_law_4 48 rfl) ?_
        refine X_aload_n 0 rfl (dk KL_law_4 49 rfl) ?_
        refine X_iload_n 3 rfl (dk KL_law_5 0 rfl) ?_
        refine X_iconst (dk KL_law_5 1 rfl) 1 (by decide) ?_
        refine X_iadd (dk KL_law_5 2 rfl) ?_
        refine Y_sld (dk KL_law_5 3 rfl) h (fun hi82 h => ?_)
        refine Y_callVI wL_50 (Nat.le_of_ble_eq_true rfl) rfl [.int (g.2.2 ((x3 + 1) : Int32).toNatClampNeg)] [.int y79] rfl rfl (Nat.le_of_ble_eq_true rfl) (Nat.le_of_ble_eq_true rfl) (dk KL_law_5 4 rfl) (fun Pc h => okX9_bale _ _ Pc h) h (fun y83 σ84 e85 h => ?_)
        try dsimp only at h
        refine X_icmp_eq 926 (dk KL_law_5 5 rfl) (by decide) (fun hc => ?_) (fun hc => ?_)
        · have h := hO_t hc h
          exact tL_law_926 ih x3 σ84 h
        · have h := hO_f hc h
          refine X_iconst (dk KL_law_5 6 rfl) 0 (by decide) ?_
          exact Y_zret (dk KL_law_5 7 rfl) rfl (by decide) h
      have h := hO_f hs7 h
      by_cases hs8 : ((g.2.2 (x3 : Int32).toNatClampNeg) &&& 31) = (8 : Int32)
      · have h := hO_t hs8 h
        refine Y_tab 8 hs8 414 (dk KL_law_0 21 rfl) (by decide) (by decide) rfl (by decide) ?_
        refine X_aload_n 1 rfl (dk KL_law_5 8 rfl) ?_
        refine X_aload_n 0 rfl (dk KL_law_5 9 rfl) ?_
        refine X_iload_n 3 rfl (dk KL_law_5 10 rfl) ?_
        refine X_iconst (dk KL_law_5 11 rfl) 1 (by decide) ?_
        refine X_iadd (dk KL_law_5 12 rfl) ?_
        refine Y_sld (dk KL_law_5 13 rfl) h (fun hi86 h => ?_)
        refine X_aload_n 0 rfl (dk KL_law_5 14 rfl) ?_
        refine X_iload_n 3 rfl (dk KL_law_5 15 rfl) ?_
        refine X_iconst (dk KL_law_5 16 rfl) 2 (by decide) ?_
        refine X_iadd (dk KL_law_5 17 rfl) ?_
        refine Y_sld (dk KL_law_5 18 rfl) h (fun hi87 h => ?_)
        refine Y_callVI wL_51 (Nat.le_of_ble_eq_true rfl) rfl [.int (g.2.2 ((x3 + 1) : Int32).toNatClampNeg), .int (g.2.2 ((x3 + 2) : Int32).toNatClampNeg)] [] rfl rfl (Nat.le_of_ble_eq_true rfl) (Nat.le_of_ble_eq_true rfl) (dk KL_law_5 19 rfl) (fun Pc h => okX8_shut _ _ _ Pc h) h (fun y88 σ89 e90 h => ?_)
        try dsimp only at h
        refine X_aload_n 2 rfl (dk KL_law_5 20 rfl) ?_
        refine X_aload_n 0 rfl (dk KL_law_5 21 rfl) ?_
        refine X_iload_n 3 rfl (dk KL_law_5 22 rfl) ?_
        refine X_iconst (dk KL_law_5 23 rfl) 1 (by decide) ?_
        refine X_iadd (dk KL_law_5 24 rfl) ?_
        refine Y_sld (dk KL_law_5 25 rfl) h (fun hi91 h => ?_)
        refine X_aload_n 0 rfl (dk KL_law_5 26 rfl) ?_
        refine X_iload_n 3 rfl (dk KL_law_5 27 rfl) ?_
        refine X_iconst (dk KL_law_5 28 rfl) 2 (by decide) ?_
        refine X_iadd (dk KL_law_5 29 rfl) ?_
        refine Y_sld (dk KL_law_5 30 rfl) h (fun hi92 h => ?_)
        refine Y_callVI wL_54 (Nat.le_of_ble_eq_true rfl) rfl [.int (g.2.2 ((x3 + 1) : Int32).toNatClampNeg), .int (g.2.2 ((x3 + 2) : Int32).toNatClampNeg)] [.int y88] rfl rfl (Nat.le_of_ble_eq_true rfl) (Nat.le_of_ble_eq_true rfl) (dk KL_law_5 31 rfl) (fun Pc h => okX9_shut _ _ _ Pc h) h (fun y93 σ94 e95 h => ?_)
        try dsimp only at h
        refine X_icmp_eq 926 (dk KL_law_5 32 rfl) (by decide) (fun hc => ?_) (fun hc => ?_)
        · have h := hO_t hc h
          exact tL_law_926 ih x3 σ94 h
        · have h := hO_f hc h
          refine X_iconst (dk KL_law_5 33 rfl) 0 (by decide) ?_
          exact Y_zret (dk KL_law_5 34 rfl) rfl (by decide) h
      have h := hO_f hs8 h
      by_cases hs9 : ((g.2.2 (x3 : Int32).toNatClampNeg) &&& 31) = (9 : Int32)
      · have h := hO_t hs9 h
        refine Y_tab 9 hs9 447 (dk KL_law_0 21 rfl) (by decide) (by decide) rfl (by decide) ?_
        refine X_aload_n 1 rfl (dk KL_law_5 35 rfl) ?_
        refine X_aload_n 0 rfl (dk KL_law_5 36 rfl) ?_
        refine X_iload_n 3 rfl (dk KL_law_5 37 rfl) ?_
        refine X_iconst (dk KL_law_5 38 rfl) 1 (by decide) ?_
        refine X_iadd (dk KL_law_5 39 rfl) ?_
        refine Y_sld (dk KL_law_5 40 rfl) h (fun hi96 h => ?_)
        refine X_aload_n 0 rfl (dk KL_law_5 41 rfl) ?_
        refine X_iload_n 3 rfl (dk KL_law_5 42 rfl) ?_
        refine X_iconst (dk KL_law_5 43 rfl) 2 (by decide) ?_
        refine X_iadd (dk KL_law_5 44 rfl) ?_
        refine Y_sld (dk KL_law_5 45 rfl) h (fun hi97 h => ?_)
        refine X_aload_n 0 rfl (dk KL_law_5 46 rfl) ?_
        refine X_iload_n 3 rfl (dk KL_law_5 47 rfl) ?_
        refine X_iconst (dk KL_law_5 48 rfl) 3 (by decide) ?_
        refine X_iadd (dk KL_law_5 49 rfl) ?_
        refine Y_sld (dk KL_law_6 0 rfl) h (fun hi98 h => ?_)
        refine X_if_eq 470 (dk KL_law_6 1 rfl) (by decide) (fun hc => ?_) (fun hc => ?_)
        · have h := hO_t hc h
          refine X_iconst (dk KL_law_6 4 rfl) 0 (by decide) ?_
          exact tL_law_471 ih x3 (g.2.2 ((x3 + 1) : Int32).toNatClampNeg) (g.2.2 ((x3 + 2) : Int32).toNatClampNeg) 0 σ h
        · have h := hO_f hc h
          refine X_iconst (dk KL_law_6 2 rfl) 1 (by decide) ?_
          refine X_goto 471 (dk KL_law_6 3 rfl) (by decide) ?_
          exact tL_law_471 ih x3 (g.2.2 ((x3 + 1) : Int32).toNatClampNeg) (g.2.2 ((x3 + 2) : Int32).toNatClampNeg) 1 σ h
      have h := hO_f hs9 h
      by_cases hs10 : ((g.2.2 (x3 : Int32).toNatClampNeg) &&& 31) = (10 : Int32)
      · have h := hO_t hs10 h
        refine Y_tab 10 hs10 506 (dk KL_law_0 21 rfl) (by decide) (by decide) rfl (by decide) ?_
        refine X_aload_n 1 rfl (dk KL_law_6 30 rfl) ?_
        refine X_aload_n 0 rfl (dk KL_law_6 31 rfl) ?_
        refine X_iload_n 3 rfl (dk KL_law_6 32 rfl) ?_
        refine X_iconst (dk KL_law_6 33 rfl) 1 (by decide) ?_
        refine X_iadd (dk KL_law_6 34 rfl) ?_
        refine Y_sld (dk KL_law_6 35 rfl) h (fun hi99 h => ?_)
        refine X_aload_n 0 rfl (dk KL_law_6 36 rfl) ?_
        refine X_iload_n 3 rfl (dk KL_law_6 37 rfl) ?_
        refine X_iconst (dk KL_law_6 38 rfl) 2 (by decide) ?_
        refine X_iadd (dk KL_law_6 39 rfl) ?_
        refine Y_sld (dk KL_law_6 40 rfl) h (fun hi100 h => ?_)
        refine X_aload_n 0 rfl (dk KL_law_6 41 rfl) ?_
        refine X_iload_n 3 rfl (dk KL_law_6 42 rfl) ?_
        refine X_iconst (dk KL_law_6 43 rfl) 3 (by decide) ?_
        refine X_iadd (dk KL_law_6 44 rfl) ?_
        refine Y_sld (dk KL_law_6 45 rfl) h (fun hi101 h => ?_)
        refine X_aload_n 0 rfl (dk KL_law_6 46 rfl) ?_
        refine X_iload_n 3 rfl (dk KL_law_6 47 rfl) ?_
        refine X_iconst (dk KL_law_6 48 rfl) 4 (by decide) ?_
        refine X_iadd (dk KL_law_6 49 rfl) ?_
        refine Y_sld (dk KL_law_7 0 rfl) h (fun hi102 h => ?_)
        refine Y_callVI wL_60 (Nat.le_of_ble_eq_true rfl) rfl [.int (g.2.2 ((x3 + 1) : Int32).toNatClampNeg), .int (g.2.2 ((x3 + 2) : Int32).toNatClampNeg), .int (g.2.2 ((x3 + 3) : Int32).toNatClampNeg), .int (g.2.2 ((x3 + 4) : Int32).toNatClampNeg)] [] rfl rfl (Nat.le_of_ble_eq_true rfl) (Nat.le_of_ble_eq_true rfl) (dk KL_law_7 1 rfl) (fun Pc h => okX8_state _ _ _ _ _ Pc h) h (fun y103 σ104 e105 h => ?_)
        try dsimp only at h
        refine X_aload_n 2 rfl (dk KL_law_7 2 rfl) ?_
        refine X_aload_n 0 rfl (dk KL_law_7 3 rfl) ?_
        refine X_iload_n 3 rfl (dk KL_law_7 4 rfl) ?_
        refine X_iconst (dk KL_law_7 5 rfl) 1 (by decide) ?_
        refine X_iadd (dk KL_law_7 6 rfl) ?_
        refine Y_sld (dk KL_law_7 7 rfl) h (fun hi106 h => ?_)
        refine X_aload_n 0 rfl (dk KL_law_7 8 rfl) ?_
        refine X_iload_n 3 rfl (dk KL_law_7 9 rfl) ?_
        refine X_iconst (dk KL_law_7 10 rfl) 2 (by decide) ?_
        refine X_iadd (dk KL_law_7 11 rfl) ?_
        refine Y_sld (dk KL_law_7 12 rfl) h (fun hi107 h => ?_)
        refine X_aload_n 0 rfl (dk KL_law_7 13 rfl) ?_
        refine X_iload_n 3 rfl (dk KL_law_7 14 rfl) ?_
        refine X_iconst (dk KL_law_7 15 rfl) 3 (by decide) ?_
        refine X_iadd (dk KL_law_7 16 rfl) ?_
        refine Y_sld (dk KL_law_7 17 rfl) h (fun hi108 h => ?_)
        refine X_aload_n 0 rfl (dk KL_law_7 18 rfl) ?_
        refine X_iload_n 3 rfl (dk KL_law_7 19 rfl) ?_
        refine X_iconst (dk KL_law_7 20 rfl) 4 (by decide) ?_
        refine X_iadd (dk KL_law_7 21 rfl) ?_
        refine Y_sld (dk KL_law_7 22 rfl) h (fun hi109 h => ?_)
        refine Y_callVI wL_64 (Nat.le_of_ble_eq_true rfl) rfl [.int (g.2.2 ((x3 + 1) : Int32).toNatClampNeg), .int (g.2.2 ((x3 + 2) : Int32).toNatClampNeg), .int (g.2.2 ((x3 + 3) : Int32).toNatClampNeg), .int (g.2.2 ((x3 + 4) : Int32).toNatClampNeg)] [.int y103] rfl rfl (Nat.le_of_ble_eq_true rfl) (Nat.le_of_ble_eq_true rfl) (dk KL_law_7 23 rfl) (fun Pc h => okX9_state _ _ _ _ _ Pc h) h (fun y110 σ111 e112 h => ?_)
        try dsimp only at h
        refine X_icmp_eq 926 (dk KL_law_7 24 rfl) (by decide) (fun hc => ?_) (fun hc => ?_)
        · have h := hO_t hc h
          exact tL_law_926 ih x3 σ111 h
        · have h := hO_f hc h
          refine X_iconst (dk KL_law_7 25 rfl) 0 (by decide) ?_
          exact Y_zret (dk KL_law_7 26 rfl) rfl (by decide) h
      have h := hO_f hs10 h
      by_cases hs11 : ((g.2.2 (x3 : Int32).toNatClampNeg) &&& 31) = (11 : Int32)
      · have h := hO_t hs11 h
        refine Y_tab 11 hs11 559 (dk KL_law_0 21 rfl) (by decide) (by decide) rfl (by decide) ?_
        refine X_aload_n 1 rfl (dk KL_law_7 27 rfl) ?_
        refine X_aload_n 0 rfl (dk KL_law_7 28 rfl) ?_
        refine X_iload_n 3 rfl (dk KL_law_7 29 rfl) ?_
        refine X_iconst (dk KL_law_7 30 rfl) 1 (by decide) ?_
        refine X_iadd (dk KL_law_7 31 rfl) ?_
        refine Y_sld (dk KL_law_7 32 rfl) h (fun hi113 h => ?_)
        refine X_aload_n 0 rfl (dk KL_law_7 33 rfl) ?_
        refine X_iload_n 3 rfl (dk KL_law_7 34 rfl) ?_
        refine X_iconst (dk KL_law_7 35 rfl) 2 (by decide) ?_
        refine X_iadd (dk KL_law_7 36 rfl) ?_
        refine Y_sld (dk KL_law_7 37 rfl) h (fun hi114 h => ?_)
        refine X_aload_n 0 rfl (dk KL_law_7 38 rfl) ?_
        refine X_iload_n 3 rfl (dk KL_law_7 39 rfl) ?_
        refine X_iconst (dk KL_law_7 40 rfl) 3 (by decide) ?_
        refine X_iadd (dk KL_law_7 41 rfl) ?_
        refine Y_sld (dk KL_law_7 42 rfl) h (fun hi115 h => ?_)
        refine X_aload_n 0 rfl (dk KL_law_7 43 rfl) ?_
        refine X_iload_n 3 rfl (dk KL_law_7 44 rfl) ?_
        refine X_iconst (dk KL_law_7 45 rfl) 4 (by decide) ?_
        refine X_iadd (dk KL_law_7 46 rfl) ?_
        refine Y_sld (dk KL_law_7 47 rfl) h (fun hi116 h => ?_)
        refine Y_callVI wL_65 (Nat.le_of_ble_eq_true rfl) rfl [.int (g.2.2 ((x3 + 1) : Int32).toNatClampNeg), .int (g.2.2 ((x3 + 2) : Int32).toNatClampNeg), .int (g.2.2 ((x3 + 3) : Int32).toNatClampNeg), .int (g.2.2 ((x3 + 4) : Int32).toNatClampNeg)] [] rfl rfl (Nat.le_of_ble_eq_true rfl) (Nat.le_of_ble_eq_true rfl) (dk KL_law_7 48 rfl) (fun Pc h => okX8_house _ _ _ _ _ Pc h) h (fun y117 σ118 e119 h => ?_)
        try dsimp only at h
        refine X_aload_n 2 rfl (dk KL_law_7 49 rfl) ?_
        refine X_aload_n 0 rfl (dk KL_law_8 0 rfl) ?_
        refine X_iload_n 3 rfl (dk KL_law_8 1 rfl) ?_
        refine X_iconst (dk KL_law_8 2 rfl) 1 (by decide) ?_
        refine X_iadd (dk KL_law_8 3 rfl) ?_
        refine Y_sld (dk KL_law_8 4 rfl) h (fun hi120 h => ?_)
        refine X_aload_n 0 rfl (dk KL_law_8 5 rfl) ?_
        refine X_iload_n 3 rfl (dk KL_law_8 6 rfl) ?_
        refine X_iconst (dk KL_law_8 7 rfl) 2 (by decide) ?_
        refine X_iadd (dk KL_law_8 8 rfl) ?_
        refine Y_sld (dk KL_law_8 9 rfl) h (fun hi121 h => ?_)
        refine X_aload_n 0 rfl (dk KL_law_8 10 rfl) ?_
        refine X_iload_n 3 rfl (dk KL_law_8 11 rfl) ?_
        refine X_iconst (dk KL_law_8 12 rfl) 3 (by decide) ?_
        refine X_iadd (dk KL_law_8 13 rfl) ?_
        refine Y_sld (dk KL_law_8 14 rfl) h (fun hi122 h => ?_)
        refine X_aload_n 0 rfl (dk KL_law_8 15 rfl) ?_
        refine X_iload_n 3 rfl (dk KL_law_8 16 rfl) ?_
        refine X_iconst (dk KL_law_8 17 rfl) 4 (by decide) ?_
        refine X_iadd (dk KL_law_8 18 rfl) ?_
        refine Y_sld (dk KL_law_8 19 rfl) h (fun hi123 h => ?_)
        refine Y_callVI wL_68 (Nat.le_of_ble_eq_true rfl) rfl [.int (g.2.2 ((x3 + 1) : Int32).toNatClampNeg), .int (g.2.2 ((x3 + 2) : Int32).toNatClampNeg), .int (g.2.2 ((x3 + 3) : Int32).toNatClampNeg), .int (g.2.2 ((x3 + 4) : Int32).toNatClampNeg)] [.int y117] rfl rfl (Nat.le_of_ble_eq_true rfl) (Nat.le_of_ble_eq_true rfl) (dk KL_law_8 20 rfl) (fun Pc h => okX9_house _ _ _ _ _ Pc h) h (fun y124 σ125 e126 h => ?_)
        try dsimp only at h
        refine X_icmp_eq 926 (dk KL_law_8 21 rfl) (by decide) (fun hc => ?_) (fun hc => ?_)
        · have h := hO_t hc h
          exact tL_law_926 ih x3 σ125 h
        · have h := hO_f hc h
          refine X_iconst (dk KL_law_8 22 rfl) 0 (by decide) ?_
          exact Y_zret (dk KL_law_8 23 rfl) rfl (by decide) h
      have h := hO_f hs11 h
      by_cases hs12 : ((g.2.2 (x3 : Int32).toNatClampNeg) &&& 31) = (12 : Int32)
      · have h := hO_t hs12 h
        refine Y_tab 12 hs12 612 (dk KL_law_0 21 rfl) (by decide) (by decide) rfl (by decide) ?_
        refine X_aload_n 1 rfl (dk KL_law_8 24 rfl) ?_
        refine X_aload_n 0 rfl (dk KL_law_8 25 rfl) ?_
        refine X_iload_n 3 rfl (dk KL_law_8 26 rfl) ?_
        refine X_iconst (dk KL_law_8 27 rfl) 1 (by decide) ?_
        refine X_iadd (dk KL_law_8 28 rfl) ?_
        refine Y_sld (dk KL_law_8 29 rfl) h (fun hi127 h => ?_)
        refine X_aload_n 0 rfl (dk KL_law_8 30 rfl) ?_
        refine X_iload_n 3 rfl (dk KL_law_8 31 rfl) ?_
        refine X_iconst (dk KL_law_8 32 rfl) 2 (by decide) ?_
        refine X_iadd (dk KL_law_8 33 rfl) ?_
        refine Y_sld (dk KL_law_8 34 rfl) h (fun hi128 h => ?_)
        refine X_aload_n 0 rfl (dk KL_law_8 35 rfl) ?_
        refine X_iload_n 3 rfl (dk KL_law_8 36 rfl) ?_
        refine X_iconst (dk KL_law_8 37 rfl) 3 (by decide) ?_
        refine X_iadd (dk KL_law_8 38 rfl) ?_
        refine Y_sld (dk KL_law_8 39 rfl) h (fun hi129 h => ?_)
        refine X_aload_n 0 rfl (dk KL_law_8 40 rfl) ?_
        refine X_iload_n 3 rfl (dk KL_law_8 41 rfl) ?_
        refine X_iconst (dk KL_law_8 42 rfl) 4 (by decide) ?_
        refine X_iadd (dk KL_law_8 43 rfl) ?_
        refine Y_sld (dk KL_law_8 44 rfl) h (fun hi130 h => ?_)
        refine Y_callVI wL_69 (Nat.le_of_ble_eq_true rfl) rfl [.int (g.2.2 ((x3 + 1) : Int32).toNatClampNeg), .int (g.2.2 ((x3 + 2) : Int32).toNatClampNeg), .int (g.2.2 ((x3 + 3) : Int32).toNatClampNeg), .int (g.2.2 ((x3 + 4) : Int32).toNatClampNeg)] [] rfl rfl (Nat.le_of_ble_eq_true rfl) (Nat.le_of_ble_eq_true rfl) (dk KL_law_8 45 rfl) (fun Pc h => okX8_full _ _ _ _ _ Pc h) h (fun y131 σ132 e133 h => ?_)
        try dsimp only at h
        refine X_aload_n 2 rfl (dk KL_law_8 46 rfl) ?_
        refine X_aload_n 0 rfl (dk KL_law_8 47 rfl) ?_
        refine X_iload_n 3 rfl (dk KL_law_8 48 rfl) ?_
        refine X_iconst (dk KL_law_8 49 rfl) 1 (by decide) ?_
        refine X_iadd (dk KL_law_9 0 rfl) ?_
        refine Y_sld (dk KL_law_9 1 rfl) h (fun hi134 h => ?_)
        refine X_aload_n 0 rfl (dk KL_law_9 2 rfl) ?_
        refine X_iload_n 3 rfl (dk KL_law_9 3 rfl) ?_
        refine X_iconst (dk KL_law_9 4 rfl) 2 (by decide) ?_
        refine X_iadd (dk KL_law_9 5 rfl) ?_
        refine Y_sld (dk KL_law_9 6 rfl) h (fun hi135 h => ?_)
        refine X_aload_n 0 rfl (dk KL_law_9 7 rfl) ?_
        refine X_iload_n 3 rfl (dk KL_law_9 8 rfl) ?_
        refine X_iconst (dk KL_law_9 9 rfl) 3 (by decide) ?_
        refine X_iadd (dk KL_law_9 10 rfl) ?_
        refine Y_sld (dk KL_law_9 11 rfl) h (fun hi136 h => ?_)
        refine X_aload_n 0 rfl (dk KL_law_9 12 rfl) ?_
        refine X_iload_n 3 rfl (dk KL_law_9 13 rfl) ?_
        refine X_iconst (dk KL_law_9 14 rfl) 4 (by decide) ?_
        refine X_iadd (dk KL_law_9 15 rfl) ?_
        refine Y_sld (dk KL_law_9 16 rfl) h (fun hi137 h => ?_)
        refine Y_callVI wL_72 (Nat.le_of_ble_eq_true rfl) rfl [.int (g.2.2 ((x3 + 1) : Int32).toNatClampNeg), .int (g.2.2 ((x3 + 2) : Int32).toNatClampNeg), .int (g.2.2 ((x3 + 3) : Int32).toNatClampNeg), .int (g.2.2 ((x3 + 4) : Int32).toNatClampNeg)] [.int y131] rfl rfl (Nat.le_of_ble_eq_true rfl) (Nat.le_of_ble_eq_true rfl) (dk KL_law_9 17 rfl) (fun Pc h => okX9_full _ _ _ _ _ Pc h) h (fun y138 σ139 e140 h => ?_)
        try dsimp only at h
        refine X_icmp_eq 926 (dk KL_law_9 18 rfl) (by decide) (fun hc => ?_) (fun hc => ?_)
        · have h := hO_t hc h
          exact tL_law_926 ih x3 σ139 h
        · have h := hO_f hc h
          refine X_iconst (dk KL_law_9 19 rfl) 0 (by decide) ?_
          exact Y_zret (dk KL_law_9 20 rfl) rfl (by decide) h
      have h := hO_f hs12 h
      by_cases hs13 : ((g.2.2 (x3 : Int32).toNatClampNeg) &&& 31) = (13 : Int32)
      · have h := hO_t hs13 h
        refine Y_tab 13 hs13 665 (dk KL_law_0 21 rfl) (by decide) (by decide) rfl (by decide) ?_
        refine X_aload_n 1 rfl (dk KL_law_9 21 rfl) ?_
        refine X_aload_n 0 rfl (dk KL_law_9 22 rfl) ?_
        refine X_iload_n 3 rfl (dk KL_law_9 23 rfl) ?_
        refine X_iconst (dk KL_law_9 24 rfl) 1 (by decide) ?_
        refine X_iadd (dk KL_law_9 25 rfl) ?_
        refine Y_sld (dk KL_law_9 26 rfl) h (fun hi141 h => ?_)
        refine X_aload_n 0 rfl (dk KL_law_9 27 rfl) ?_
        refine X_iload_n 3 rfl (dk KL_law_9 28 rfl) ?_
        refine X_iconst (dk KL_law_9 29 rfl) 2 (by decide) ?_
        refine X_iadd (dk KL_law_9 30 rfl) ?_
        refine Y_sld (dk KL_law_9 31 rfl) h (fun hi142 h => ?_)
        refine Y_callVI wL_73 (Nat.le_of_ble_eq_true rfl) rfl [.int (g.2.2 ((x3 + 1) : Int32).toNatClampNeg), .int (g.2.2 ((x3 + 2) : Int32).toNatClampNeg)] [] rfl rfl (Nat.le_of_ble_eq_true rfl) (Nat.le_of_ble_eq_true rfl) (dk KL_law_9 32 rfl) (fun Pc h => okX8_comes _ _ _ Pc h) h (fun y143 σ144 e145 h => ?_)
        try dsimp only at h
        refine X_aload_n 2 rfl (dk KL_law_9 33 rfl) ?_
        refine X_aload_n 0 rfl (dk KL_law_9 34 rfl) ?_
        refine X_iload_n 3 rfl (dk KL_law_9 35 rfl) ?_
        refine X_iconst (dk KL_law_9 36 rfl) 1 (by decide) ?_
        refine X_iadd (dk KL_law_9 37 rfl) ?_
        refine Y_sld (dk KL_law_9 38 rfl) h (fun hi146 h => ?_)
        refine X_aload_n 0 rfl (dk KL_law_9 39 rfl) ?_
        refine X_iload_n 3 rfl (dk KL_law_9 40 rfl) ?_
        refine X_iconst (dk KL_law_9 41 rfl) 2 (by decide) ?_
        refine X_iadd (dk KL_law_9 42 rfl) ?_
        refine Y_sld (dk KL_law_9 43 rfl) h (fun hi147 h => ?_)
        refine Y_callVI wL_76 (Nat.le_of_ble_eq_true rfl) rfl [.int (g.2.2 ((x3 + 1) : Int32).toNatClampNeg), .int (g.2.2 ((x3 + 2) : Int32).toNatClampNeg)] [.int y143] rfl rfl (Nat.le_of_ble_eq_true rfl) (Nat.le_of_ble_eq_true rfl) (dk KL_law_9 44 rfl) (fun Pc h => okX9_comes _ _ _ Pc h) h (fun y148 σ149 e150 h => ?_)
        try dsimp only at h
        refine X_icmp_eq 926 (dk KL_law_9 45 rfl) (by decide) (fun hc => ?_) (fun hc => ?_)
        · have h := hO_t hc h
          exact tL_law_926 ih x3 σ149 h
        · have h := hO_f hc h
          refine X_iconst (dk KL_law_9 46 rfl) 0 (by decide) ?_
          exact Y_zret (dk KL_law_9 47 rfl) rfl (by decide) h
      have h := hO_f hs13 h
      by_cases hs14 : ((g.2.2 (x3 : Int32).toNatClampNeg) &&& 31) = (14 : Int32)
      · have h := hO_t hs14 h
        refine Y_tab 14 hs14 698 (dk KL_law_0 21 rfl) (by decide) (by decide) rfl (by decide) ?_
        refine X_aload_n 1 rfl (dk KL_law_9 48 rfl) ?_
        refine X_aload_n 0 rfl (dk KL_law_9 49 rfl) ?_
        refine X_iload_n 3 rfl (dk KL_law_10 0 rfl) ?_
        refine X_iconst (dk KL_law_10 1 rfl) 1 (by decide) ?_
        refine X_iadd (dk KL_law_10 2 rfl) ?_
        refine Y_sld (dk KL_law_10 3 rfl) h (fun hi151 h => ?_)
        refine X_aload_n 0 rfl (dk KL_law_10 4 rfl) ?_
        refine X_iload_n 3 rfl (dk KL_law_10 5 rfl) ?_
        refine X_iconst (dk KL_law_10 6 rfl) 2 (by decide) ?_
        refine X_iadd (dk KL_law_10 7 rfl) ?_
        refine Y_sld (dk KL_law_10 8 rfl) h (fun hi152 h => ?_)
        refine X_aload_n 0 rfl (dk KL_law_10 9 rfl) ?_
        refine X_iload_n 3 rfl (dk KL_law_10 10 rfl) ?_
        refine X_iconst (dk KL_law_10 11 rfl) 3 (by decide) ?_
        refine X_iadd (dk KL_law_10 12 rfl) ?_
        refine Y_sld (dk KL_law_10 13 rfl) h (fun hi153 h => ?_)
        refine Y_callVI wL_77 (Nat.le_of_ble_eq_true rfl) rfl [.int (g.2.2 ((x3 + 1) : Int32).toNatClampNeg), .int (g.2.2 ((x3 + 2) : Int32).toNatClampNeg), .int (g.2.2 ((x3 + 3) : Int32).toNatClampNeg)] [] rfl rfl (Nat.le_of_ble_eq_true rfl) (Nat.le_of_ble_eq_true rfl) (dk KL_law_10 14 rfl) (fun Pc h => okX8_barred _ _ _ _ Pc h) h (fun y154 σ155 e156 h => ?_)
        try dsimp only at h
        refine X_aload_n 2 rfl (dk KL_law_10 15 rfl) ?_
        refine X_aload_n 0 rfl (dk KL_law_10 16 rfl) ?_
        refine X_iload_n 3 rfl (dk KL_law_10 17 rfl) ?_
        refine X_iconst (dk KL_law_10 18 rfl) 1 (by decide) ?_
        refine X_iadd (dk KL_law_10 19 rfl) ?_
        refine Y_sld (dk KL_law_10 20 rfl) h (fun hi157 h => ?_)
        refine X_aload_n 0 rfl (dk KL_law_10 21 rfl) ?_
        refine X_iload_n 3 rfl (dk KL_law_10 22 rfl) ?_
        refine X_iconst (dk KL_law_10 23 rfl) 2 (by decide) ?_
        refine X_iadd (dk KL_law_10 24 rfl) ?_
        refine Y_sld (dk KL_law_10 25 rfl) h (fun hi158 h => ?_)
        refine X_aload_n 0 rfl (dk KL_law_10 26 rfl) ?_
        refine X_iload_n 3 rfl (dk KL_law_10 27 rfl) ?_
        refine X_iconst (dk KL_law_10 28 rfl) 3 (by decide) ?_
        refine X_iadd (dk KL_law_10 29 rfl) ?_
        refine Y_sld (dk KL_law_10 30 rfl) h (fun hi159 h => ?_)
        refine Y_callVI wL_80 (Nat.le_of_ble_eq_true rfl) rfl [.int (g.2.2 ((x3 + 1) : Int32).toNatClampNeg), .int (g.2.2 ((x3 + 2) : Int32).toNatClampNeg), .int (g.2.2 ((x3 + 3) : Int32).toNatClampNeg)] [.int y154] rfl rfl (Nat.le_of_ble_eq_true rfl) (Nat.le_of_ble_eq_true rfl) (dk KL_law_10 31 rfl) (fun Pc h => okX9_barred _ _ _ _ Pc h) h (fun y160 σ161 e162 h => ?_)
        try dsimp only at h
        refine X_icmp_eq 926 (dk KL_law_10 32 rfl) (by decide) (fun hc => ?_) (fun hc => ?_)
        · have h := hO_t hc h
          exact tL_law_926 ih x3 σ161 h
        · have h := hO_f hc h
          refine X_iconst (dk KL_law_10 33 rfl) 0 (by decide) ?_
          exact Y_zret (dk KL_law_10 34 rfl) rfl (by decide) h
      have h := hO_f hs14 h
      by_cases hs15 : ((g.2.2 (x3 : Int32).toNatClampNeg) &&& 31) = (15 : Int32)
      · have h := hO_t hs15 h
        refine Y_tab 15 hs15 741 (dk KL_law_0 21 rfl) (by decide) (by decide) rfl (by decide) ?_
        refine X_aload_n 1 rfl (dk KL_law_10 35 rfl) ?_
        refine X_aload_n 0 rfl (dk KL_law_10 36 rfl) ?_
        refine X_iload_n 3 rfl (dk KL_law_10 37 rfl) ?_
        refine X_iconst (dk KL_law_10 38 rfl) 1 (by decide) ?_
        refine X_iadd (dk KL_law_10 39 rfl) ?_
        refine Y_sld (dk KL_law_10 40 rfl) h (fun hi163 h => ?_)
        refine X_aload_n 0 rfl (dk KL_law_10 41 rfl) ?_
        refine X_iload_n 3 rfl (dk KL_law_10 42 rfl) ?_
        refine X_iconst (dk KL_law_10 43 rfl) 2 (by decide) ?_
        refine X_iadd (dk KL_law_10 44 rfl) ?_
        refine Y_sld (dk KL_law_10 45 rfl) h (fun hi164 h => ?_)
        refine Y_callVI wL_81 (Nat.le_of_ble_eq_true rfl) rfl [.int (g.2.2 ((x3 + 1) : Int32).toNatClampNeg), .int (g.2.2 ((x3 + 2) : Int32).toNatClampNeg)] [] rfl rfl (Nat.le_of_ble_eq_true rfl) (Nat.le_of_ble_eq_true rfl) (dk KL_law_10 46 rfl) (fun Pc h => okX8_could _ _ _ Pc h) h (fun y165 σ166 e167 h => ?_)
        try dsimp only at h
        refine X_aload_n 2 rfl (dk KL_law_10 47 rfl) ?_
        refine X_aload_n 0 rfl (dk KL_law_10 48 rfl) ?_
        refine X_iload_n 3 rfl (dk KL_law_10 49 rfl) ?_
        refine X_iconst (dk KL_law_11 0 rfl) 1 (by decide) ?_
        refine X_iadd (dk KL_law_11 1 rfl) ?_
        refine Y_sld (dk KL_law_11 2 rfl) h (fun hi168 h => ?_)
        refine X_aload_n 0 rfl (dk KL_law_11 3 rfl) ?_
        refine X_iload_n 3 rfl (dk KL_law_11 4 rfl) ?_
        refine X_iconst (dk KL_law_11 5 rfl) 2 (by decide) ?_
        refine X_iadd (dk KL_law_11 6 rfl) ?_
        refine Y_sld (dk KL_law_11 7 rfl) h (fun hi169 h => ?_)
        refine Y_callVI wL_84 (Nat.le_of_ble_eq_true rfl) rfl [.int (g.2.2 ((x3 + 1) : Int32).toNatClampNeg), .int (g.2.2 ((x3 + 2) : Int32).toNatClampNeg)] [.int y165] rfl rfl (Nat.le_of_ble_eq_true rfl) (Nat.le_of_ble_eq_true rfl) (dk KL_law_11 8 rfl) (fun Pc h => okX9_could _ _ _ Pc h) h (fun y170 σ171 e172 h => ?_)
        try dsimp only at h
        refine X_icmp_eq 926 (dk KL_law_11 9 rfl) (by decide) (fun hc => ?_) (fun hc => ?_)
        · have h := hO_t hc h
          exact tL_law_926 ih x3 σ171 h
        · have h := hO_f hc h
          refine X_iconst (dk KL_law_11 10 rfl) 0 (by decide) ?_
          exact Y_zret (dk KL_law_11 11 rfl) rfl (by decide) h
      have h := hO_f hs15 h
      by_cases hs16 : ((g.2.2 (x3 : Int32).toNatClampNeg) &&& 31) = (16 : Int32)
      · have h := hO_t hs16 h
        refine Y_tab 16 hs16 774 (dk KL_law_0 21 rfl) (by decide) (by decide) rfl (by decide) ?_
        refine X_aload_n 1 rfl (dk KL_law_11 12 rfl) ?_
        refine X_aload_n 0 rfl (dk KL_law_11 13 rfl) ?_
        refine X_iload_n 3 rfl (dk KL_law_11 14 rfl) ?_
        refine X_iconst (dk KL_law_11 15 rfl) 1 (by decide) ?_
        refine X_iadd (dk KL_law_11 16 rfl) ?_
        refine Y_sld (dk KL_law_11 17 rfl) h (fun hi173 h => ?_)
        refine X_aload_n 0 rfl (dk KL_law_11 18 rfl) ?_
        refine X_iload_n 3 rfl (dk KL_law_11 19 rfl) ?_
        refine X_iconst (dk KL_law_11 20 rfl) 2 (by decide) ?_
        refine X_iadd (dk KL_law_11 21 rfl) ?_
        refine Y_sld (dk KL_law_11 22 rfl) h (fun hi174 h => ?_)
        refine X_aload_n 0 rfl (dk KL_law_11 23 rfl) ?_
        refine X_iload_n 3 rfl (dk KL_law_11 24 rfl) ?_
        refine X_iconst (dk KL_law_11 25 rfl) 3 (by decide) ?_
        refine X_iadd (dk KL_law_11 26 rfl) ?_
        refine Y_sld (dk KL_law_11 27 rfl) h (fun hi175 h => ?_)
        refine Y_callVI wL_85 (Nat.le_of_ble_eq_true rfl) rfl [.int (g.2.2 ((x3 + 1) : Int32).toNatClampNeg), .int (g.2.2 ((x3 + 2) : Int32).toNatClampNeg), .int (g.2.2 ((x3 + 3) : Int32).toNatClampNeg)] [] rfl rfl (Nat.le_of_ble_eq_true rfl) (Nat.le_of_ble_eq_true rfl) (dk KL_law_11 28 rfl) (fun Pc h => okX8_sealed _ _ _ _ Pc h) h (fun y176 σ177 e178 h => ?_)
        try dsimp only at h
        refine X_aload_n 2 rfl (dk KL_law_11 29 rfl) ?_
        refine X_aload_n 0 rfl (dk KL_law_11 30 rfl) ?_
        refine X_iload_n 3 rfl (dk KL_law_11 31 rfl) ?_
        refine X_iconst (dk KL_law_11 32 rfl) 1 (by decide) ?_
        refine X_iadd (dk KL_law_11 33 rfl) ?_
        refine Y_sld (dk KL_law_11 34 rfl) h (fun hi179 h => ?_)
        refine X_aload_n 0 rfl (dk KL_law_11 35 rfl) ?_
        refine X_iload_n 3 rfl (dk KL_law_11 36 rfl) ?_
        refine X_iconst (dk KL_law_11 37 rfl) 2 (by decide) ?_
        refine X_iadd (dk KL_law_11 38 rfl) ?_
        refine Y_sld (dk KL_law_11 39 rfl) h (fun hi180 h => ?_)
        refine X_aload_n 0 rfl (dk KL_law_11 40 rfl) ?_
        refine X_iload_n 3 rfl (dk KL_law_11 41 rfl) ?_
        refine X_iconst (dk KL_law_11 42 rfl) 3 (by decide) ?_
        refine X_iadd (dk KL_law_11 43 rfl) ?_
        refine Y_sld (dk KL_law_11 44 rfl) h (fun hi181 h => ?_)
        refine Y_callVI wL_88 (Nat.le_of_ble_eq_true rfl) rfl [.int (g.2.2 ((x3 + 1) : Int32).toNatClampNeg), .int (g.2.2 ((x3 + 2) : Int32).toNatClampNeg), .int (g.2.2 ((x3 + 3) : Int32).toNatClampNeg)] [.int y176] rfl rfl (Nat.le_of_ble_eq_true rfl) (Nat.le_of_ble_eq_true rfl) (dk KL_law_11 45 rfl) (fun Pc h => okX9_sealed _ _ _ _ Pc h) h (fun y182 σ183 e184 h => ?_)
        try dsimp only at h
        refine X_icmp_eq 926 (dk KL_law_11 46 rfl) (by decide) (fun hc => ?_) (fun hc => ?_)
        · have h := hO_t hc h
          exact tL_law_926 ih x3 σ183 h
        · have h := hO_f hc h
          refine X_iconst (dk KL_law_11 47 rfl) 0 (by decide) ?_
          exact Y_zret (dk KL_law_11 48 rfl) rfl (by decide) h
      have h := hO_f hs16 h
      by_cases hs17 : ((g.2.2 (x3 : Int32).toNatClampNeg) &&& 31) = (17 : Int32)
      · have h := hO_t hs17 h
        refine Y_tab 17 hs17 817 (dk KL_law_0 21 rfl) (by decide) (by decide) rfl (by decide) ?_
        refine X_aload_n 1 rfl (dk KL_law_11 49 rfl) ?_
        refine X_aload_n 0 rfl (dk KL_law_12 0 rfl) ?_
        refine X_iload_n 3 rfl (dk KL_law_12 1 rfl) ?_
        refine X_iconst (dk KL_law_12 2 rfl) 1 (by decide) ?_
        refine X_iadd (dk KL_law_12 3 rfl) ?_
        refine Y_sld (dk KL_law_12 4 rfl) h (fun hi185 h => ?_)
        refine X_aload_n 0 rfl (dk KL_law_12 5 rfl) ?_
        refine X_iload_n 3 rfl (dk KL_law_12 6 rfl) ?_
        refine X_iconst (dk KL_law_12 7 rfl) 2 (by decide) ?_
        refine X_iadd (dk KL_law_12 8 rfl) ?_
        refine Y_sld (dk KL_law_12 9 rfl) h (fun hi186 h => ?_)
        refine X_aload_n 0 rfl (dk KL_law_12 10 rfl) ?_
        refine X_iload_n 3 rfl (dk KL_law_12 11 rfl) ?_
        refine X_iconst (dk KL_law_12 12 rfl) 3 (by decide) ?_
        refine X_iadd (dk KL_law_12 13 rfl) ?_
        refine Y_sld (dk KL_law_12 14 rfl) h (fun hi187 h => ?_)
        refine Y_callVI wL_89 (Nat.le_of_ble_eq_true rfl) rfl [.int (g.2.2 ((x3 + 1) : Int32).toNatClampNeg), .int (g.2.2 ((x3 + 2) : Int32).toNatClampNeg), .int (g.2.2 ((x3 + 3) : Int32).toNatClampNeg)] [] rfl rfl (Nat.le_of_ble_eq_true rfl) (Nat.le_of_ble_eq_true rfl) (dk KL_law_12 15 rfl) (fun Pc h => okX8_tolls _ _ _ _ Pc h) h (fun y188 σ189 e190 h => ?_)
        try dsimp only at h
        refine X_aload_n 2 rfl (dk KL_law_12 16 rfl) ?_
        refine X_aload_n 0 rfl (dk KL_law_12 17 rfl) ?_
        refine X_iload_n 3 rfl (dk KL_law_12 18 rfl) ?_
        refine X_iconst (dk KL_law_12 19 rfl) 1 (by decide) ?_
        refine X_iadd (dk KL_law_12 20 rfl) ?_
        refine Y_sld (dk KL_law_12 21 rfl) h (fun hi191 h => ?_)
        refine X_aload_n 0 rfl (dk KL_law_12 22 rfl) ?_
        refine X_iload_n 3 rfl (dk KL_law_12 23 rfl) ?_
        refine X_iconst (dk KL_law_12 24 rfl) 2 (by decide) ?_
        refine X_iadd (dk KL_law_12 25 rfl) ?_
        refine Y_sld (dk KL_law_12 26 rfl) h (fun hi192 h => ?_)
        refine X_aload_n 0 rfl (dk KL_law_12 27 rfl) ?_
        refine X_iload_n 3 rfl (dk KL_law_12 28 rfl) ?_
        refine X_iconst (dk KL_law_12 29 rfl) 3 (by decide) ?_
        refine X_iadd (dk KL_law_12 30 rfl) ?_
        refine Y_sld (dk KL_law_12 31 rfl) h (fun hi193 h => ?_)
        refine Y_callVI wL_92 (Nat.le_of_ble_eq_true rfl) rfl [.int (g.2.2 ((x3 + 1) : Int32).toNatClampNeg), .int (g.2.2 ((x3 + 2) : Int32).toNatClampNeg), .int (g.2.2 ((x3 + 3) : Int32).toNatClampNeg)] [.int y188] rfl rfl (Nat.le_of_ble_eq_true rfl) (Nat.le_of_ble_eq_true rfl) (dk KL_law_12 32 rfl) (fun Pc h => okX9_tolls _ _ _ _ Pc h) h (fun y194 σ195 e196 h => ?_)
        try dsimp only at h
        refine X_icmp_eq 926 (dk KL_law_12 33 rfl) (by decide) (fun hc => ?_) (fun hc => ?_)
        · have h := hO_t hc h
          exact tL_law_926 ih x3 σ195 h
        · have h := hO_f hc h
          refine X_iconst (dk KL_law_12 34 rfl) 0 (by decide) ?_
          exact Y_zret (dk KL_law_12 35 rfl) rfl (by decide) h
      have h := hO_f hs17 h
      by_cases hs18 : ((g.2.2 (x3 : Int32).toNatClampNeg) &&& 31) = (18 : Int32)
      · have h := hO_t hs18 h
        refine Y_tab 18 hs18 860 (dk KL_law_0 21 rfl) (by decide) (by decide) rfl (by decide) ?_
        refine X_aload_n 1 rfl (dk KL_law_12 36 rfl) ?_
        refine X_aload_n 0 rfl (dk KL_law_12 37 rfl) ?_
        refine X_iload_n 3 rfl (dk KL_law_12 38 rfl) ?_
        refine X_iconst (dk KL_law_12 39 rfl) 1 (by decide) ?_
        refine X_iadd (dk KL_law_12 40 rfl) ?_
        refine Y_sld (dk KL_law_12 41 rfl) h (fun hi197 h => ?_)
        refine X_aload_n 0 rfl (dk KL_law_12 42 rfl) ?_
        refine X_iload_n 3 rfl (dk KL_law_12 43 rfl) ?_
        refine X_iconst (dk KL_law_12 44 rfl) 2 (by decide) ?_
        refine X_iadd (dk KL_law_12 45 rfl) ?_
        refine Y_sld (dk KL_law_12 46 rfl) h (fun hi198 h => ?_)
        refine X_aload_n 0 rfl (dk KL_law_12 47 rfl) ?_
        refine X_iload_n 3 rfl (dk KL_law_12 48 rfl) ?_
        refine X_iconst (dk KL_law_12 49 rfl) 3 (by decide) ?_
        refine X_iadd (dk KL_law_13 0 rfl) ?_
        refine Y_sld (dk KL_law_13 1 rfl) h (fun hi199 h => ?_)
        refine Y_callVI wL_93 (Nat.le_of_ble_eq_true rfl) rfl [.int (g.2.2 ((x3 + 1) : Int32).toNatClampNeg), .int (g.2.2 ((x3 + 2) : Int32).toNatClampNeg), .int (g.2.2 ((x3 + 3) : Int32).toNatClampNeg)] [] rfl rfl (Nat.le_of_ble_eq_true rfl) (Nat.le_of_ble_eq_true rfl) (dk KL_law_13 2 rfl) (fun Pc h => okX8_crowded _ _ _ _ Pc h) h (fun y200 σ201 e202 h => ?_)
        try dsimp only at h
        refine X_aload_n 2 rfl (dk KL_law_13 3 rfl) ?_
        refine X_aload_n 0 rfl (dk KL_law_13 4 rfl) ?_
        refine X_iload_n 3 rfl (dk KL_law_13 5 rfl) ?_
        refine X_iconst (dk KL_law_13 6 rfl) 1 (by decide) ?_
        refine X_iadd (dk KL_law_13 7 rfl) ?_
        refine Y_sld (dk KL_law_13 8 rfl) h (fun hi203 h => ?_)
        refine X_aload_n 0 rfl (dk KL_law_13 9 rfl) ?_
        refine X_iload_n 3 rfl (dk KL_law_13 10 rfl) ?_
        refine X_iconst (dk KL_law_13 11 rfl) 2 (by decide) ?_
        refine X_iadd (dk KL_law_13 12 rfl) ?_
        refine Y_sld (dk KL_law_13 13 rfl) h (fun hi204 h => ?_)
        refine X_aload_n 0 rfl (dk KL_law_13 14 rfl) ?_
        refine X_iload_n 3 rfl (dk KL_law_13 15 rfl) ?_
        refine X_iconst (dk KL_law_13 16 rfl) 3 (by decide) ?_
        refine X_iadd (dk KL_law_13 17 rfl) ?_
        refine Y_sld (dk KL_law_13 18 rfl) h (fun hi205 h => ?_)
        refine Y_callVI wL_96 (Nat.le_of_ble_eq_true rfl) rfl [.int (g.2.2 ((x3 + 1) : Int32).toNatClampNeg), .int (g.2.2 ((x3 + 2) : Int32).toNatClampNeg), .int (g.2.2 ((x3 + 3) : Int32).toNatClampNeg)] [.int y200] rfl rfl (Nat.le_of_ble_eq_true rfl) (Nat.le_of_ble_eq_true rfl) (dk KL_law_13 19 rfl) (fun Pc h => okX9_crowded _ _ _ _ Pc h) h (fun y206 σ207 e208 h => ?_)
        try dsimp only at h
        refine X_icmp_eq 926 (dk KL_law_13 20 rfl) (by decide) (fun hc => ?_) (fun hc => ?_)
        · have h := hO_t hc h
          exact tL_law_926 ih x3 σ207 h
        · have h := hO_f hc h
          refine X_iconst (dk KL_law_13 21 rfl) 0 (by decide) ?_
          exact Y_zret (dk KL_law_13 22 rfl) rfl (by decide) h
      have h := hO_f hs18 h
      by_cases hs19 : ((g.2.2 (x3 : Int32).toNatClampNeg) &&& 31) = (19 : Int32)
      · have h := hO_t hs19 h
        refine Y_tab 19 hs19 903 (dk KL_law_0 21 rfl) (by decide) (by decide) rfl (by decide) ?_
        refine X_aload_n 1 rfl (dk KL_law_13 23 rfl) ?_
        refine X_aload_n 0 rfl (dk KL_law_13 24 rfl) ?_
        refine X_iload_n 3 rfl (dk KL_law_13 25 rfl) ?_
        refine X_iconst (dk KL_law_13 26 rfl) 1 (by decide) ?_
        refine X_iadd (dk KL_law_13 27 rfl) ?_
        refine Y_sld (dk KL_law_13 28 rfl) h (fun hi209 h => ?_)
        refine Y_callVI wL_97 (Nat.le_of_ble_eq_true rfl) rfl [.int (g.2.2 ((x3 + 1) : Int32).toNatClampNeg)] [] rfl rfl (Nat.le_of_ble_eq_true rfl) (Nat.le_of_ble_eq_true rfl) (dk KL_law_13 29 rfl) (fun Pc h => okX8_count _ _ Pc h) h (fun y210 σ211 e212 h => ?_)
        try dsimp only at h
        refine X_aload_n 2 rfl (dk KL_law_13 30 rfl) ?_
        refine X_aload_n 0 rfl (dk KL_law_13 31 rfl) ?_
        refine X_iload_n 3 rfl (dk KL_law_13 32 rfl) ?_
        refine X_iconst (dk KL_law_13 33 rfl) 1 (by decide) ?_
        refine X_iadd (dk KL_law_13 34 rfl) ?_
        refine Y_sld (dk KL_law_13 35 rfl) h (fun hi213 h => ?_)
        refine Y_callVI wL_100 (Nat.le_of_ble_eq_true rfl) rfl [.int (g.2.2 ((x3 + 1) : Int32).toNatClampNeg)] [.int y210] rfl rfl (Nat.le_of_ble_eq_true rfl) (Nat.le_of_ble_eq_true rfl) (dk KL_law_13 36 rfl) (fun Pc h => okX9_count _ _ Pc h) h (fun y214 σ215 e216 h => ?_)
        try dsimp only at h
        refine X_icmp_eq 926 (dk KL_law_13 37 rfl) (by decide) (fun hc => ?_) (fun hc => ?_)
        · have h := hO_t hc h
          exact tL_law_926 ih x3 σ215 h
        · have h := hO_f hc h
          refine X_iconst (dk KL_law_13 38 rfl) 0 (by decide) ?_
          exact Y_zret (dk KL_law_13 39 rfl) rfl (by decide) h
      have h := hO_f hs19 h
      refine X_tableOut 926 (dk KL_law_0 21 rfl) (sw_out_0_19 hs0 hs1 hs2 hs3 hs4 hs5 hs6 hs7 hs8 hs9 hs10 hs11 hs12 hs13 hs14 hs15 hs16 hs17 hs18 hs19) (by decide) ?_
      exact tL_law_926 ih x3 σ h
end G
