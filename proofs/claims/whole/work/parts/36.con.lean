def viK_1 (vi : Nat → Nat → Int32) : Nat → Nat → Int32 := (u2 vi 1 1 0)
def vlK_1 (vl : Nat → Nat → Int64) : Nat → Nat → Int64 := vl
def vrK_1 (vr : Nat → Nat → Option Nat) : Nat → Nat → Option Nat := (u2 vr 1 0 (some 2))
theorem sm_1 {vr : Nat → Nat → Option Nat} (hs : SMr vr) : SMr (vrK_1 vr) := by
  have hs := SMr.r (k := 1) (j := 0) (q := 2) hs (by decide)
  exact hs
section K
variable {g : GP} {vi : Nat → Nat → Int32} {vl : Nat → Nat → Int64} {vr : Nat → Nat → Option Nat}
set_option maxRecDepth 100000 in
set_option maxHeartbeats 4000000 in
theorem okh_1 (hk : OKH 2 vi vl vr) : OKH 3 (viK_1 vi) (vlK_1 vl) (vrK_1 vr) := by
  have hk := hk.up (n' := 3) (by decide)
  have hk := hk.r (k := 1) (j := 0) (q := 2) (by decide) (by decide)
  have hk := hk.i (k := 1) (j := 1) (x := 0) (by decide)
  exact hk
set_option maxRecDepth 100000 in
set_option maxHeartbeats 8000000 in
theorem kon_1 (hk : OKH 2 vi vl vr) : CON g mX7_init 1 1 2000 [.ref 1] (HN 2 vi vl vr) (pS none (HN 3 (viK_1 vi) (vlK_1 vl) (vrK_1 vr))) := by
  refine CON.of (by decide) (by decide) ?_
  show X g _ _ _ _ _ 0 [(0, .ref 1)] [] _
  refine X_aload_n 0 rfl (dk KX7_init_0 0 rfl) ?_
  refine Z_objInit (Nat.le_of_ble_eq_true rfl) (Nat.le_of_ble_eq_true rfl) (tin1 29 rfl rfl) (tin1 22 rfl rfl) (tin1 23 rfl rfl) (dk KX7_init_0 1 rfl) ?_
  refine X_aload_n 0 rfl (dk KX7_init_0 2 rfl) ?_
  refine X_sipush (dk KX7_init_0 3 rfl) 2000 (by decide) ?_
  refine Z_newB (nc := 0) (ns := 0) (N := 2000) rfl (by decide) (by decide) (by decide) hk (by decide) rfl rfl (dk KX7_init_0 4 rfl) ?_
  show X g _ _ _ _ _ _ [(0, .ref 1)] [.ref 2, .ref 1] (HN 3 vi vl vr)
  have hk := hk.up (n' := 3) (by decide)
  refine X_putRF (h := HN 3 vi vl vr) (k := 1) (j := 0) (q := 2) CL7 (Nat.le_of_ble_eq_true rfl) rfl (by decide) rfl (fun _ => ⟨rfl, rfl⟩) rfl rfl rfl (tin1 30 rfl rfl) (dk KX7_init_0 5 rfl) ?_
  show X g _ _ _ _ _ _ [(0, .ref 1)] [] (HN 3 vi vl (u2 vr 1 0 (some 2)))
  have hk := hk.r (k := 1) (j := 0) (q := 2) (by decide) (by decide)
  refine X_aload_n 0 rfl (dk KX7_init_0 6 rfl) ?_
  refine X_iconst (dk KX7_init_0 7 rfl) 0 (by decide) ?_
  refine X_putI (h := HN 3 vi vl (u2 vr 1 0 (some 2))) (k := 1) (j := 1) CL7 (Nat.le_of_ble_eq_true rfl) rfl (by decide) rfl rfl (tin1 31 rfl rfl) (dk KX7_init_0 8 rfl) ?_
  show X g _ _ _ _ _ _ [(0, .ref 1)] [] (HN 3 (u2 vi 1 1 0) vl (u2 vr 1 0 (some 2)))
  have hk := hk.i (k := 1) (j := 1) (x := 0) (by decide)
  exact X_return (dk KX7_init_0 9 rfl) rfl ⟨rfl, rfl⟩
end K
def viK_3 (vi : Nat → Nat → Int32) : Nat → Nat → Int32 := (u2 (u2 (u2 vi 3 0 0) 3 6 0) 3 14 0)
def vlK_3 (vl : Nat → Nat → Int64) : Nat → Nat → Int64 := vl
def vrK_3 (vr : Nat → Nat → Option Nat) : Nat → Nat → Option Nat := (u2 (u2 (u2 (u2 (u2 (u2 (u2 (u2 (u2 (rG (u2 (u2 (u2 (u2 vr 3 1 (some 4)) 3 2 (some 5)) 3 3 (some 6)) 3 4 (some 7)) 8 8) 3 5 (some 8)) 3 7 (some 17)) 3 8 (some 18)) 3 9 (some 19)) 3 10 (some 20)) 3 11 (some 21)) 3 12 (some 22)) 3 13 (some 23)) 3 15 (some 24))
theorem sm_3 {vr : Nat → Nat → Option Nat} (hs : SMr vr) : SMr (vrK_3 vr) := by
  have hs := SMr.r (k := 3) (j := 1) (q := 4) hs (by decide)
  have hs := SMr.r (k := 3) (j := 2) (q := 5) hs (by decide)
  have hs := SMr.r (k := 3) (j := 3) (q := 6) hs (by decide)
  have hs := SMr.r (k := 3) (j := 4) (q := 7) hs (by decide)
  have hs := SMr.g (N := 8) (n := 8) hs (by decide)
  have hs := SMr.r (k := 3) (j := 5) (q := 8) hs (by decide)
  have hs := SMr.r (k := 3) (j := 7) (q := 17) hs (by decide)
  have hs := SMr.r (k := 3) (j := 8) (q := 18) hs (by decide)
  have hs := SMr.r (k := 3) (j := 9) (q := 19) hs (by decide)
  have hs := SMr.r (k := 3) (j := 10) (q := 20) hs (by decide)
  have hs := SMr.r (k := 3) (j := 11) (q := 21) hs (by decide)
  have hs := SMr.r (k := 3) (j := 12) (q := 22) hs (by decide)
  have hs := SMr.r (k := 3) (j := 13) (q := 23) hs (by decide)
  have hs := SMr.r (k := 3) (j := 15) (q := 24) hs (by decide)
  exact hs
section K
variable {g : GP} {vi : Nat → Nat → Int32} {vl : Nat → Nat → Int64} {vr : Nat → Nat → Option Nat}
set_option maxRecDepth 100000 in
set_option maxHeartbeats 4000000 in
theorem okh_3 (hk : OKH 4 vi vl vr) : OKH 25 (viK_3 vi) (vlK_3 vl) (vrK_3 vr) := by
  have hk := hk.i (k := 3) (j := 0) (x := 0) (by decide)
  have hk := hk.up (n' := 5) (by decide)
  have hk := hk.r (k := 3) (j := 1) (q := 4) (by decide) (by decide)
  have hk := hk.up (n' := 6) (by decide)
  have hk := hk.r (k := 3) (j := 2) (q := 5) (by decide) (by decide)
  have hk := hk.up (n' := 7) (by decide)
  have hk := hk.r (k := 3) (j := 3) (q := 6) (by decide) (by decide)
  have hk := hk.up (n' := 8) (by decide)
  have hk := hk.r (k := 3) (j := 4) (q := 7) (by decide) (by decide)
  have hk := hk.g (N := 8)
  have hk : OKH 17 _ _ _ := hk
  have hk := hk.r (k := 3) (j := 5) (q := 8) (by decide) (by decide)
  have hk := hk.i (k := 3) (j := 6) (x := 0) (by decide)
  have hk := hk.up (n' := 18) (by decide)
  have hk := hk.r (k := 3) (j := 7) (q := 17) (by decide) (by decide)
  have hk := hk.up (n' := 19) (by decide)
  have hk := hk.r (k := 3) (j := 8) (q := 18) (by decide) (by decide)
  have hk := hk.up (n' := 20) (by decide)
  have hk := hk.r (k := 3) (j := 9) (q := 19) (by decide) (by decide)
  have hk := hk.up (n' := 21) (by decide)
  have hk := hk.r (k := 3) (j := 10) (q := 20) (by decide) (by decide)
  have hk := hk.up (n' := 22) (by decide)
  have hk := hk.r (k := 3) (j := 11) (q := 21) (by decide) (by decide)
  have hk := hk.up (n' := 23) (by decide)
  have hk := hk.r (k := 3) (j := 12) (q := 22) (by decide) (by decide)
  have hk := hk.up (n' := 24) (by decide)
  have hk := hk.r (k := 3) (j := 13) (q := 23) (by decide) (by decide)
  have hk := hk.i (k := 3) (j := 14) (x := 0) (by decide)
  have hk := hk.up (n' := 25) (by decide)
  have hk := hk.r (k := 3) (j := 15) (q := 24) (by decide) (by decide)
  exact hk
set_option maxRecDepth 100000 in
set_option maxHeartbeats 8000000 in
theorem kon_3 (hk : OKH 4 vi vl vr) : CON g mX2_init 1 21 166 [.ref 3] (HN 4 vi vl vr) (pS none (HN 25 (viK_3 vi) (vlK_3 vl) (vrK_3 vr))) := by
  refine CON.of (by decide) (by decide) ?_
  show X g _ _ _ _ _ 0 [(0, .ref 3)] [] _
  refine X_aload_n 0 rfl (dk KX2_init_0 0 rfl) ?_
  refine Z_objInit (Nat.le_of_ble_eq_true rfl) (Nat.le_of_ble_eq_true rfl) (tin1 45 rfl rfl) (tin1 22 rfl rfl) (tin1 23 rfl rfl) (dk KX2_init_0 1 rfl) ?_
  refine X_aload_n 0 rfl (dk KX2_init_0 2 rfl) ?_
  refine X_iconst (dk KX2_init_0 3 rfl) 0 (by decide) ?_
  refine X_putI (h := HN 4 vi vl vr) (k := 3) (j := 0) CL2 (Nat.le_of_ble_eq_true rfl) rfl (by decide) rfl rfl (tin1 48 rfl rfl) (dk KX2_init_0 4 rfl) ?_
  show X g _ _ _ _ _ _ [(0, .ref 3)] [] (HN 4 (u2 vi 3 0 0) vl vr)
  have hk := hk.i (k := 3) (j := 0) (x := 0) (by decide)
  refine X_aload_n 0 rfl (dk KX2_init_0 5 rfl) ?_
  refine X_bipush (dk KX2_init_0 6 rfl) 8 (by decide) ?_
  refine Z_newI (nc := 20) (ns := 158) (N := 8) rfl (by decide) (by decide) (by decide) hk (by decide) rfl rfl (dk KX2_init_0 7 rfl) ?_
  show X g _ _ _ _ _ _ [(0, .ref 3)] [.ref 4, .ref 3] (HN 5 (u2 vi 3 0 0) vl vr)
  have hk := hk.up (n' := 5) (by decide)
  refine X_putRF (h := HN 5 (u2 vi 3 0 0) vl vr) (k := 3) (j := 1) (q := 4) CL2 (Nat.le_of_ble_eq_true rfl) rfl (by decide) rfl (fun _ => ⟨rfl, rfl⟩) rfl rfl rfl (tin1 51 rfl rfl) (dk KX2_init_0 8 rfl) ?_
  show X g _ _ _ _ _ _ [(0, .ref 3)] [] (HN 5 (u2 vi 3 0 0) vl (u2 vr 3 1 (some 4)))
  have hk := hk.r (k := 3) (j := 1) (q := 4) (by decide) (by decide)
  refine X_aload_n 0 rfl (dk KX2_init_0 9 rfl) ?_
  refine X_bipush (dk KX2_init_0 10 rfl) 8 (by decide) ?_
  refine Z_newI (nc := 19) (ns := 150) (N := 8) rfl (by decide) (by decide) (by decide) hk (by decide) rfl rfl (dk KX2_init_0 11 rfl) ?_
  show X g _ _ _ _ _ _ [(0, .ref 3)] [.ref 5, .ref 3] (HN 6 (u2 vi 3 0 0) vl (u2 vr 3 1 (some 4)))
  have hk := hk.up (n' := 6) (by decide)
  refine X_putRF (h := HN 6 (u2 vi 3 0 0) vl (u2 vr 3 1 (some 4))) (k := 3) (j := 2) (q := 5) CL2 (Nat.le_of_ble_eq_true rfl) rfl (by decide) rfl (fun _ => ⟨rfl, rfl⟩) rfl rfl rfl (tin1 54 rfl rfl) (dk KX2_init_0 12 rfl) ?_
  show X g _ _ _ _ _ _ [(0, .ref 3)] [] (HN 6 (u2 vi 3 0 0) vl (u2 (u2 vr 3 1 (some 4)) 3 2 (some 5)))
  have hk := hk.r (k := 3) (j := 2) (q := 5) (by decide) (by decide)
  refine X_aload_n 0 rfl (dk KX2_init_0 13 rfl) ?_
  refine X_bipush (dk KX2_init_0 14 rfl) 8 (by decide) ?_
  refine Z_newI (nc := 18) (ns := 142) (N := 8) rfl (by decide) (by decide) (by decide) hk (by decide) rfl rfl (dk KX2_init_0 15 rfl) ?_
  show X g _ _ _ _ _ _ [(0, .ref 3)] [.ref 6, .ref 3] (HN 7 (u2 vi 3 0 0) vl (u2 (u2 vr 3 1 (some 4)) 3 2 (some 5)))
  have hk := hk.up (n' := 7) (by decide)
  refine X_putRF (h := HN 7 (u2 vi 3 0 0) vl (u2 (u2 vr 3 1 (some 4)) 3 2 (some 5))) (k := 3) (j := 3) (q := 6) CL2 (Nat.le_of_ble_eq_true rfl) rfl (by decide) rfl (fun _ => ⟨rfl, rfl⟩) rfl rfl rfl (tin1 57 rfl rfl) (dk KX2_init_0 16 rfl) ?_
  show X g _ _ _ _ _ _ [(0, .ref 3)] [] (HN 7 (u2 vi 3 0 0) vl (u2 (u2 (u2 vr 3 1 (some 4)) 3 2 (some 5)) 3 3 (some 6)))
  have hk := hk.r (k := 3) (j := 3) (q := 6) (by decide) (by decide)
  refine X_aload_n 0 rfl (dk KX2_init_0 17 rfl) ?_
  refine X_bipush (dk KX2_init_0 18 rfl) 8 (by decide) ?_
  refine Z_newI (nc := 17) (ns := 134) (N := 8) rfl (by decide) (by decide) (by decide) hk (by decide) rfl rfl (dk KX2_init_0 19 rfl) ?_
  show X g _ _ _ _ _ _ [(0, .ref 3)] [.ref 7, .ref 3] (HN 8 (u2 vi 3 0 0) vl (u2 (u2 (u2 vr 3 1 (some 4)) 3 2 (some 5)) 3 3 (some 6)))
  have hk := hk.up (n' := 8) (by decide)
  refine X_putRF (h := HN 8 (u2 vi 3 0 0) vl (u2 (u2 (u2 vr 3 1 (some 4)) 3 2 (some 5)) 3 3 (some 6))) (k := 3) (j := 4) (q := 7) CL2 (Nat.le_of_ble_eq_true rfl) rfl (by decide) rfl (fun _ => ⟨rfl, rfl⟩) rfl rfl rfl (tin1 60 rfl rfl) (dk KX2_init_0 20 rfl) ?_
  show X g _ _ _ _ _ _ [(0, .ref 3)] [] (HN 8 (u2 vi 3 0 0) vl (u2 (u2 (u2 (u2 vr 3 1 (some 4)) 3 2 (some 5)) 3 3 (some 6)) 3 4 (some 7)))
  have hk := hk.r (k := 3) (j := 4) (q := 7) (by decide) (by decide)
  refine X_aload_n 0 rfl (dk KX2_init_0 21 rfl) ?_
  refine X_bipush (dk KX2_init_0 22 rfl) 8 (by decide) ?_
  refine X_iconst (dk KX2_init_0 23 rfl) 3 (by decide) ?_
  refine Z_mna (nc := 8) (ns := 102) (N := 8) (K := 3) rfl rfl (by decide) (by decide) rfl (by decide) hk (by decide) rfl rfl (tin1 46 rfl rfl) (dk KX2_init_0 24 rfl) ?_
  show X g _ _ _ _ _ _ [(0, .ref 3)] [.ref 8, .ref 3] (HN 17 (u2 vi 3 0 0) vl (rG (u2 (u2 (u2 (u2 vr 3 1 (some 4)) 3 2 (some 5)) 3 3 (some 6)) 3 4 (some 7)) 8 8))
  have hk := hk.g (N := 8)
  have hk : OKH 17 _ _ _ := hk
  refine X_putRF (h := HN 17 (u2 vi 3 0 0) vl (rG (u2 (u2 (u2 (u2 vr 3 1 (some 4)) 3 2 (some 5)) 3 3 (some 6)) 3 4 (some 7)) 8 8)) (k := 3) (j := 5) (q := 8) CL2 (Nat.le_of_ble_eq_true rfl) rfl (by decide) rfl (fun _ => ⟨rfl, rfl⟩) rfl rfl rfl (tin1 63 rfl rfl) (dk KX2_init_0 25 rfl) ?_
  show X g _ _ _ _ _ _ [(0, .ref 3)] [] (HN 17 (u2 vi 3 0 0) vl (u2 (rG (u2 (u2 (u2 (u2 vr 3 1 (some 4)) 3 2 (some 5)) 3 3 (some 6)) 3 4 (some 7)) 8 8) 3 5 (some 8)))
  have hk := hk.r (k := 3) (j := 5) (q := 8) (by decide) (by decide)
  refine X_aload_n 0 rfl (dk KX2_init_0 26 rfl) ?_
  refine X_iconst (dk KX2_init_0 27 rfl) 0 (by decide) ?_
  refine X_putI (h := HN 17 (u2 vi 3 0 0) vl (u2 (rG (u2 (u2 (u2 (u2 vr 3 1 (some 4)) 3 2 (some 5)) 3 3 (some 6)) 3 4 (some 7)) 8 8) 3 5 (some 8))) (k := 3) (j := 6) CL2 (Nat.le_of_ble_eq_true rfl) rfl (by decide) rfl rfl (tin1 66 rfl rfl) (dk KX2_init_0 28 rfl) ?_
  show X g _ _ _ _ _ _ [(0, .ref 3)] [] (HN 17 (u2 (u2 vi 3 0 0) 3 6 0) vl (u2 (rG (u2 (u2 (u2 (u2 vr 3 1 (some 4)) 3 2 (some 5)) 3 3 (some 6)) 3 4 (some 7)) 8 8) 3 5 (some 8)))
  have hk := hk.i (k := 3) (j := 6) (x := 0) (by decide)
  refine X_aload_n 0 rfl (dk KX2_init_0 29 rfl) ?_
  refine X_bipush (dk KX2_init_0 30 rfl) 6 (by decide) ?_
  refine Z_newI (nc := 7) (ns := 96) (N := 6) rfl (by decide) (by decide) (by decide) hk (by decide) rfl rfl (dk KX2_init_0 31 rfl) ?_
  show X g _ _ _ _ _ _ [(0, .ref 3)] [.ref 17, .ref 3] (HN 18 (u2 (u2 vi 3 0 0) 3 6 0) vl (u2 (rG (u2 (u2 (u2 (u2 vr 3 1 (some 4)) 3 2 (some 5)) 3 3 (some 6)) 3 4 (some 7)) 8 8) 3 5 (some 8)))
  have hk := hk.up (n' := 18) (by decide)
  refine X_putRF (h := HN 18 (u2 (u2 vi 3 0 0) 3 6 0) vl (u2 (rG (u2 (u2 (u2 (u2 vr 3 1 (some 4)) 3 2 (some 5)) 3 3 (some 6)) 3 4 (some 7)) 8 8) 3 5 (some 8))) (k := 3) (j := 7) (q := 17) CL2 (Nat.le_of_ble_eq_true rfl) rfl (by decide) rfl (fun _ => ⟨rfl, rfl⟩) rfl rfl rfl (tin1 69 rfl rfl) (dk KX2_init_0 32 rfl) ?_
  show X g _ _ _ _ _ _ [(0, .ref 3)] [] (HN 18 (u2 (u2 vi 3 0 0) 3 6 0) vl (u2 (u2 (rG (u2 (u2 (u2 (u2 vr 3 1 (some 4)) 3 2 (some 5)) 3 3 (some 6)) 3 4 (some 7)) 8 8) 3 5 (some 8)) 3 7 (some 17)))
  have hk := hk.r (k := 3) (j := 7) (q := 17) (by decide) (by decide)
  refine X_aload_n 0 rfl (dk KX2_init_0 33 rfl) ?_
  refine X_bipush (dk KX2_init_0 34 rfl) 6 (by decide) ?_
  refine Z_newI (nc := 6) (ns := 90) (N := 6) rfl (by decide) (by decide) (by decide) hk (by decide) rfl rfl (dk KX2_init_0 35 rfl) ?_
  show X g _ _ _ _ _ _ [(0, .ref 3)] [.ref 18, .ref 3] (HN 19 (u2 (u2 vi 3 0 0) 3 6 0) vl (u2 (u2 (rG (u2 (u2 (u2 (u2 vr 3 1 (some 4)) 3 2 (some 5)) 3 3 (some 6)) 3 4 (some 7)) 8 8) 3 5 (some 8)) 3 7 (some 17)))
  have hk := hk.up (n' := 19) (by decide)
  refine X_putRF (h := HN 19 (u2 (u2 vi 3 0 0) 3 6 0) vl (u2 (u2 (rG (u2 (u2 (u2 (u2 vr 3 1 (some 4)) 3 2 (some 5)) 3 3 (some 6)) 3 4 (some 7)) 8 8) 3 5 (some 8)) 3 7 (some 17))) (k := 3) (j := 8) (q := 18) CL2 (Nat.le_of_ble_eq_true rfl) rfl (by decide) rfl (fun _ => ⟨rfl, rfl⟩) rfl rfl rfl (tin1 73 rfl rfl) (dk KX2_init_0 36 rfl) ?_
  show X g _ _ _ _ _ _ [(0, .ref 3)] [] (HN 19 (u2 (u2 vi 3 0 0) 3 6 0) vl (u2 (u2 (u2 (rG (u2 (u2 (u2 (u2 vr 3 1 (some 4)) 3 2 (some 5)) 3 3 (some 6)) 3 4 (some 7)) 8 8) 3 5 (some 8)) 3 7 (some 17)) 3 8 (some 18)))
  have hk := hk.r (k := 3) (j := 8) (q := 18) (by decide) (by decide)
  refine X_aload_n 0 rfl (dk KX2_init_0 37 rfl) ?_
  refine X_bipush (dk KX2_init_0 38 rfl) 6 (by decide) ?_
  refine Z_newI (nc := 5) (ns := 84) (N := 6) rfl (by decide) (by decide) (by decide) hk (by decide) rfl rfl (dk KX2_init_0 39 rfl) ?_
  show X g _ _ _ _ _ _ [(0, .ref 3)] [.ref 19, .ref 3] (HN 20 (u2 (u2 vi 3 0 0) 3 6 0) vl (u2 (u2 (u2 (rG (u2 (u2 (u2 (u2 vr 3 1 (some 4)) 3 2 (some 5)) 3 3 (some 6)) 3 4 (some 7)) 8 8) 3 5 (some 8)) 3 7 (some 17)) 3 8 (some 18)))
  have hk := hk.up (n' := 20) (by decide)
  refine X_putRF (h := HN 20 (u2 (u2 vi 3 0 0) 3 6 0) vl (u2 (u2 (u2 (rG (u2 (u2 (u2 (u2 vr 3 1 (some 4)) 3 2 (some 5)) 3 3 (some 6)) 3 4 (some 7)) 8 8) 3 5 (some 8)) 3 7 (some 17)) 3 8 (some 18))) (k := 3) (j := 9) (q := 19) CL2 (Nat.le_of_ble_eq_true rfl) rfl (by decide) rfl (fun _ => ⟨rfl, rfl⟩) rfl rfl rfl (tin1 77 rfl rfl) (dk KX2_init_0 40 rfl) ?_
  show X g _ _ _ _ _ _ [(0, .ref 3)] [] (HN 20 (u2 (u2 vi 3 0 0) 3 6 0) vl (u2 (u2 (u2 (u2 (rG (u2 (u2 (u2 (u2 vr 3 1 (some 4)) 3 2 (some 5)) 3 3 (some 6)) 3 4 (some 7)) 8 8) 3 5 (some 8)) 3 7 (some 17)) 3 8 (some 18)) 3 9 (some 19)))
  have hk := hk.r (k := 3) (j := 9) (q := 19) (by decide) (by decide)
  refine X_aload_n 0 rfl (dk KX2_init_0 41 rfl) ?_
  refine X_bipush (dk KX2_init_0 42 rfl) 6 (by decide) ?_
  refine Z_newI (nc := 4) (ns := 78) (N := 6) rfl (by decide) (by decide) (by decide) hk (by decide) rfl rfl (dk KX2_init_0 43 rfl) ?_
  show X g _ _ _ _ _ _ [(0, .ref 3)] [.ref 20, .ref 3] (HN 21 (u2 (u2 vi 3 0 0) 3 6 0) vl (u2 (u2 (u2 (u2 (rG (u2 (u2 (u2 (u2 vr 3 1 (some 4)) 3 2 (some 5)) 3 3 (some 6)) 3 4 (some 7)) 8 8) 3 5 (some 8)) 3 7 (some 17)) 3 8 (some 18)) 3 9 (some 19)))
  have hk := hk.up (n' := 21) (by decide)
  refine X_putRF (h := HN 21 (u2 (u2 vi 3 0 0) 3 6 0) vl (u2 (u2 (u2 (u2 (rG (u2 (u2 (u2 (u2 vr 3 1 (some 4)) 3 2 (some 5)) 3 3 (some 6)) 3 4 (some 7)) 8 8) 3 5 (some 8)) 3 7 (some 17)) 3 8 (some 18)) 3 9 (some 19))) (k := 3) (j := 10) (q := 20) CL2 (Nat.le_of_ble_eq_true rfl) rfl (by decide) rfl (fun _ => ⟨rfl, rfl⟩) rfl rfl rfl (tin1 81 rfl rfl) (dk KX2_init_0 44 rfl) ?_
  show X g _ _ _ _ _ _ [(0, .ref 3)] [] (HN 21 (u2 (u2 vi 3 0 0) 3 6 0) vl (u2 (u2 (u2 (u2 (u2 (rG (u2 (u2 (u2 (u2 vr 3 1 (some 4)) 3 2 (some 5)) 3 3 (some 6)) 3 4 (some 7)) 8 8) 3 5 (some 8)) 3 7 (some 17)) 3 8 (some 18)) 3 9 (some 19)) 3 10 (some 20)))
  have hk := hk.r (k := 3) (j := 10) (q := 20) (by decide) (by decide)
  refine X_aload_n 0 rfl (dk KX2_init_0 45 rfl) ?_
  refine X_bipush (dk KX2_init_0 46 rfl) 6 (by decide) ?_
  refine Z_newI (nc := 3) (ns := 72) (N := 6) rfl (by decide) (by decide) (by decide) hk (by decide) rfl rfl (dk KX2_init_0 47 rfl) ?_
  show X g _ _ _ _ _ _ [(0, .ref 3)] [.ref 21, .ref 3] (HN 22 (u2 (u2 vi 3 0 0) 3 6 0) vl (u2 (u2 (u2 (u2 (u2 (rG (u2 (u2 (u2 (u2 vr 3 1 (some 4)) 3 2 (some 5)) 3 3 (some 6)) 3 4 (some 7)) 8 8) 3 5 (some 8)) 3 7 (some 17)) 3 8 (some 18)) 3 9 (some 19)) 3 10 (some 20)))
  have hk := hk.up (n' := 22) (by decide)
  refine X_putRF (h := HN 22 (u2 (u2 vi 3 0 0) 3 6 0) vl (u2 (u2 (u2 (u2 (u2 (rG (u2 (u2 (u2 (u2 vr 3 1 (some 4)) 3 2 (some 5)) 3 3 (some 6)) 3 4 (some 7)) 8 8) 3 5 (some 8)) 3 7 (some 17)) 3 8 (some 18)) 3 9 (some 19)) 3 10 (some 20))) (k := 3) (j := 11) (q := 21) CL2 (Nat.le_of_ble_eq_true rfl) rfl (by decide) rfl (fun _ => ⟨rfl, rfl⟩) rfl rfl rfl (tin1 84 rfl rfl) (dk KX2_init_0 48 rfl) ?_
  show X g _ _ _ _ _ _ [(0, .ref 3)] [] (HN 22 (u2 (u2 vi 3 0 0) 3 6 0) vl (u2 (u2 (u2 (u2 (u2 (u2 (rG (u2 (u2 (u2 (u2 vr 3 1 (some 4)) 3 2 (some 5)) 3 3 (some 6)) 3 4 (some 7)) 8 8) 3 5 (some 8)) 3 7 (some 17)) 3 8 (some 18)) 3 9 (some 19)) 3 10 (some 20)) 3 11 (some 21)))
  have hk := hk.r (k := 3) (j := 11) (q := 21) (by decide) (by decide)
  refine X_aload_n 0 rfl (dk KX2_init_0 49 rfl) ?_
  refine X_bipush (dk KX2_init_0 50 rfl) 6 (by decide) ?_
  refine Z_newI (nc := 2) (ns := 66) (N := 6) rfl (by decide) (by decide) (by decide) hk (by decide) rfl rfl (dk KX2_init_0 51 rfl) ?_
  show X g _ _ _ _ _ _ [(0, .ref 3)] [.ref 22, .ref 3] (HN 23 (u2 (u2 vi 3 0 0) 3 6 0) vl (u2 (u2 (u2 (u2 (u2 (u2 (rG (u2 (u2 (u2 (u2 vr 3 1 (some 4)) 3 2 (some 5)) 3 3 (some 6)) 3 4 (some 7)) 8 8) 3 5 (some 8)) 3 7 (some 17)) 3 8 (some 18)) 3 9 (some 19)) 3 10 (some 20)) 3 11 (some 21)))
  have hk := hk.up (n' := 23) (by decide)
  refine X_putRF (h := HN 23 (u2 (u2 vi 3 0 0) 3 6 0) vl (u2 (u2 (u2 (u2 (u2 (u2 (rG (u2 (u2 (u2 (u2 vr 3 1 (some 4)) 3 2 (some 5)) 3 3 (some 6)) 3 4 (some 7)) 8 8) 3 5 (some 8)) 3 7 (some 17)) 3 8 (some 18)) 3 9 (some 19)) 3 10 (some 20)) 3 11 (some 21))) (k := 3) (j := 12) (q := 22) CL2 (Nat.le_of_ble_eq_true rfl) rfl (by decide) rfl (fun _ => ⟨rfl, rfl⟩) rfl rfl rfl (tin1 87 rfl rfl) (dk KX2_init_0 52 rfl) ?_
  show X g _ _ _ _ _ _ [(0, .ref 3)] [] (HN 23 (u2 (u2 vi 3 0 0) 3 6 0) vl (u2 (u2 (u2 (u2 (u2 (u2 (u2 (rG (u2 (u2 (u2 (u2 vr 3 1 (some 4)) 3 2 (some 5)) 3 3 (some 6)) 3 4 (some 7)) 8 8) 3 5 (some 8)) 3 7 (some 17)) 3 8 (some 18)) 3 9 (some 19)) 3 10 (some 20)) 3 11 (some 21)) 3 12 (some 22)))
  have hk := hk.r (k := 3) (j := 12) (q := 22) (by decide) (by decide)
  refine X_aload_n 0 rfl (dk KX2_init_0 53 rfl) ?_
  refine X_bipush (dk KX2_init_0 54 rfl) 6 (by decide) ?_
  refine Z_newI (nc := 1) (ns := 60) (N := 6) rfl (by decide) (by decide) (by decide) hk (by decide) rfl rfl (dk KX2_init_0 55 rfl) ?_
  show X g _ _ _ _ _ _ [(0, .ref 3)] [.ref 23, .ref 3] (HN 24 (u2 (u2 vi 3 0 0) 3 6 0) vl (u2 (u2 (u2 (u2 (u2 (u2 (u2 (rG (u2 (u2 (u2 (u2 vr 3 1 (some 4)) 3 2 (some 5)) 3 3 (some 6)) 3 4 (some 7)) 8 8) 3 5 (some 8)) 3 7 (some 17)) 3 8 (some 18)) 3 9 (some 19)) 3 10 (some 20)) 3 11 (some 21)) 3 12 (some 22)))
  have hk := hk.up (n' := 24) (by decide)
  refine X_putRF (h := HN 24 (u2 (u2 vi 3 0 0) 3 6 0) vl (u2 (u2 (u2 (u2 (u2 (u2 (u2 (rG (u2 (u2 (u2 (u2 vr 3 1 (some 4)) 3 2 (some 5)) 3 3 (some 6)) 3 4 (some 7)) 8 8) 3 5 (some 8)) 3 7 (some 17)) 3 8 (some 18)) 3 9 (some 19)) 3 10 (some 20)) 3 11 (some 21)) 3 12 (some 22))) (k := 3) (j := 13) (q := 23) CL2 (Nat.le_of_ble_eq_true rfl) rfl (by decide) rfl (fun _ => ⟨rfl, rfl⟩) rfl rfl rfl (tin1 90 rfl rfl) (dk KX2_init_0 56 rfl) ?_
  show X g _ _ _ _ _ _ [(0, .ref 3)] [] (HN 24 (u2 (u2 vi 3 0 0) 3 6 0) vl (u2 (u2 (u2 (u2 (u2 (u2 (u2 (u2 (rG (u2 (u2 (u2 (u2 vr 3 1 (some 4)) 3 2 (some 5)) 3 3 (some 6)) 3 4 (some 7)) 8 8) 3 5 (some 8)) 3 7 (some 17)) 3 8 (some 18)) 3 9 (some 19)) 3 10 (some 20)) 3 11 (some 21)) 3 12 (some 22)) 3 13 (some 23)))
  have hk := hk.r (k := 3) (j := 13) (q := 23) (by decide) (by decide)
  refine X_aload_n 0 rfl (dk KX2_init_0 57 rfl) ?_
  refine X_iconst (dk KX2_init_0 58 rfl) 0 (by decide) ?_
  refine X_putI (h := HN 24 (u2 (u2 vi 3 0 0) 3 6 0) vl (u2 (u2 (u2 (u2 (u2 (u2 (u2 (u2 (rG (u2 (u2 (u2 (u2 vr 3 1 (some 4)) 3 2 (some 5)) 3 3 (some 6)) 3 4 (some 7)) 8 8) 3 5 (some 8)) 3 7 (some 17)) 3 8 (some 18)) 3 9 (some 19)) 3 10 (some 20)) 3 11 (some 21)) 3 12 (some 22)) 3 13 (some 23))) (k := 3) (j := 14) CL2 (Nat.le_of_ble_eq_true rfl) rfl (by decide) rfl rfl (tin1 93 rfl rfl) (dk KX2_init_0 59 rfl) ?_
  show X g _ _ _ _ _ _ [(0, .ref 3)] [] (HN 24 (u2 (u2 (u2 vi 3 0 0) 3 6 0) 3 14 0) vl (u2 (u2 (u2 (u2 (u2 (u2 (u2 (u2 (rG (u2 (u2 (u2 (u2 vr 3 1 (some 4)) 3 2 (some 5)) 3 3 (some 6)) 3 4 (some 7)) 8 8) 3 5 (some 8)) 3 7 (some 17)) 3 8 (some 18)) 3 9 (some 19)) 3 10 (some 20)) 3 11 (some 21)) 3 12 (some 22)) 3 13 (some 23)))
  have hk := hk.i (k := 3) (j := 14) (x := 0) (by decide)
  refine X_aload_n 0 rfl (dk KX2_init_1 0 rfl) ?_
  refine X_bipush (dk KX2_init_1 1 rfl) 60 (by decide) ?_
  refine Z_newI (nc := 0) (ns := 0) (N := 60) rfl (by decide) (by decide) (by decide) hk (by decide) rfl rfl (dk KX2_init_1 2 rfl) ?_
  show X g _ _ _ _ _ _ [(0, .ref 3)] [.ref 24, .ref 3] (HN 25 (u2 (u2 (u2 vi 3 0 0) 3 6 0) 3 14 0) vl (u2 (u2 (u2 (u2 (u2 (u2 (u2 (u2 (rG (u2 (u2 (u2 (u2 vr 3 1 (some 4)) 3 2 (some 5)) 3 3 (some 6)) 3 4 (some 7)) 8 8) 3 5 (some 8)) 3 7 (some 17)) 3 8 (some 18)) 3 9 (some 19)) 3 10 (some 20)) 3 11 (some 21)) 3 12 (some 22)) 3 13 (some 23)))
  have hk := hk.up (n' := 25) (by decide)
  refine X_putRF (h := HN 25 (u2 (u2 (u2 vi 3 0 0) 3 6 0) 3 14 0) vl (u2 (u2 (u2 (u2 (u2 (u2 (u2 (u2 (rG (u2 (u2 (u2 (u2 vr 3 1 (some 4)) 3 2 (some 5)) 3 3 (some 6)) 3 4 (some 7)) 8 8) 3 5 (some 8)) 3 7 (some 17)) 3 8 (some 18)) 3 9 (some 19)) 3 10 (some 20)) 3 11 (some 21)) 3 12 (some 22)) 3 13 (some 23))) (k := 3) (j := 15) (q := 24) CL2 (Nat.le_of_ble_eq_true rfl) rfl (by decide) rfl (fun _ => ⟨rfl, rfl⟩) rfl rfl rfl (tin1 95 rfl rfl) (dk KX2_init_1 3 rfl) ?_
  show X g _ _ _ _ _ _ [(0, .ref 3)] [] (HN 25 (u2 (u2 (u2 vi 3 0 0) 3 6 0) 3 14 0) vl (u2 (u2 (u2 (u2 (u2 (u2 (u2 (u2 (u2 (rG (u2 (u2 (u2 (u2 vr 3 1 (some 4)) 3 2 (some 5)) 3 3 (some 6)) 3 4 (some 7)) 8 8) 3 5 (some 8)) 3 7 (some 17)) 3 8 (some 18)) 3 9 (some 19)) 3 10 (some 20)) 3 11 (some 21)) 3 12 (some 22)) 3 13 (some 23)) 3 15 (some 24)))
  have hk := hk.r (k := 3) (j := 15) (q := 24) (by decide) (by decide)
  exact X_return (dk KX2_init_1 4 rfl) rfl ⟨rfl, rfl⟩
end K
def viK_25 (vi : Nat → Nat → Int32) : Nat → Nat → Int32 := (u2 vi 25 0 0)
def vlK_25 (vl : Nat → Nat → Int64) : Nat → Nat → Int64 := vl
def vrK_25 (vr : Nat → Nat → Option Nat) : Nat → Nat → Option Nat := (u2 (rG (u2 (u2 (u2 vr 25 1 (some 26)) 25 2 (some 27)) 25 3 (some 28)) 29 8) 25 4 (some 29))
theorem sm_25 {vr : Nat → Nat → Option Nat} (hs : SMr vr) : SMr (vrK_25 vr) := by
  have hs := SMr.r (k := 25) (j := 1) (q := 26) hs (by decide)
  have hs := SMr.r (k := 25) (j := 2) (q := 27) hs (by decide)
  have hs := SMr.r (k := 25) (j := 3) (q := 28) hs (by decide)
  have hs := SMr.g (N := 8) (n := 29) hs (by decide)
  have hs := SMr.r (k := 25) (j := 4) (q := 29) hs (by decide)
  exact hs
section K
variable {g : GP} {vi : Nat → Nat → Int32} {vl : Nat → Nat → Int64} {vr : Nat → Nat → Option Nat}
set_option maxRecDepth 100000 in
set_option maxHeartbeats 4000000 in
theorem okh_25 (hk : OKH 26 vi vl vr) : OKH 38 (viK_25 vi) (vlK_25 vl) (vrK_25 vr) := by
  have hk := hk.i (k := 25) (j := 0) (x := 0) (by decide)
  have hk := hk.up (n' := 27) (by decide)
  have hk := hk.r (k := 25) (j := 1) (q := 26) (by decide) (by decide)
  have hk := hk.up (n' := 28) (by decide)
  have hk := hk.r (k := 25) (j := 2) (q := 27) (by decide) (by decide)
  have hk := hk.up (n' := 29) (by decide)
  have hk := hk.r (k := 25) (j := 3) (q := 28) (by decide) (by decide)
  have hk := hk.g (N := 8)
  have hk : OKH 38 _ _ _ := hk
  have hk := hk.r (k := 25) (j := 4) (q := 29) (by decide) (by decide)
  exact hk
set_option maxRecDepth 100000 in
set_option maxHeartbeats 8000000 in
theorem kon_25 (hk : OKH 26 vi vl vr) : CON g mX0_init 1 12 1388 [.ref 25] (HN 26 vi vl vr) (pS none (HN 38 (viK_25 vi) (vlK_25 vl) (vrK_25 vr))) := by
  refine CON.of (by decide) (by decide) ?_
  show X g _ _ _ _ _ 0 [(0, .ref 25)] [] _
  refine X_aload_n 0 rfl (dk KX0_init_0 0 rfl) ?_
  refine Z_objInit (Nat.le_of_ble_eq_true rfl) (Nat.le_of_ble_eq_true rfl) (tin1 136 rfl rfl) (tin1 22 rfl rfl) (tin1 23 rfl rfl) (dk KX0_init_0 1 rfl) ?_
  refine X_aload_n 0 rfl (dk KX0_init_0 2 rfl) ?_
  refine X_iconst (dk KX0_init_0 3 rfl) 0 (by decide) ?_
  refine X_putI (h := HN 26 vi vl vr) (k := 25) (j := 0) CL0 (Nat.le_of_ble_eq_true rfl) rfl (by decide) rfl rfl (tin1 138 rfl rfl) (dk KX0_init_0 4 rfl) ?_
  show X g _ _ _ _ _ _ [(0, .ref 25)] [] (HN 26 (u2 vi 25 0 0) vl vr)
  have hk := hk.i (k := 25) (j := 0) (x := 0) (by decide)
  refine X_aload_n 0 rfl (dk KX0_init_0 5 rfl) ?_
  refine X_sipush (dk KX0_init_0 6 rfl) 300 (by decide) ?_
  refine Z_newI (nc := 11) (ns := 1088) (N := 300) rfl (by decide) (by decide) (by decide) hk (by decide) rfl rfl (dk KX0_init_0 7 rfl) ?_
  show X g _ _ _ _ _ _ [(0, .ref 25)] [.ref 26, .ref 25] (HN 27 (u2 vi 25 0 0) vl vr)
  have hk := hk.up (n' := 27) (by decide)
  refine X_putRF (h := HN 27 (u2 vi 25 0 0) vl vr) (k := 25) (j := 1) (q := 26) CL0 (Nat.le_of_ble_eq_true rfl) rfl (by decide) rfl (fun _ => ⟨rfl, rfl⟩) rfl rfl rfl (tin1 140 rfl rfl) (dk KX0_init_0 8 rfl) ?_
  show X g _ _ _ _ _ _ [(0, .ref 25)] [] (HN 27 (u2 vi 25 0 0) vl (u2 vr 25 1 (some 26)))
  have hk := hk.r (k := 25) (j := 1) (q := 26) (by decide) (by decide)
  refine X_aload_n 0 rfl (dk KX0_init_0 9 rfl) ?_
  refine X_sipush (dk KX0_init_0 10 rfl) 300 (by decide) ?_
  refine Z_newI (nc := 10) (ns := 788) (N := 300) rfl (by decide) (by decide) (by decide) hk (by decide) rfl rfl (dk KX0_init_0 11 rfl) ?_
  show X g _ _ _ _ _ _ [(0, .ref 25)] [.ref 27, .ref 25] (HN 28 (u2 vi 25 0 0) vl (u2 vr 25 1 (some 26)))
  have hk := hk.up (n' := 28) (by decide)
  refine X_putRF (h := HN 28 (u2 vi 25 0 0) vl (u2 vr 25 1 (some 26))) (k := 25) (j := 2) (q := 27) CL0 (Nat.le_of_ble_eq_true rfl) rfl (by decide) rfl (fun _ => ⟨rfl, rfl⟩) rfl rfl rfl (tin1 141 rfl rfl) (dk KX0_init_0 12 rfl) ?_
  show X g _ _ _ _ _ _ [(0, .ref 25)] [] (HN 28 (u2 vi 25 0 0) vl (u2 (u2 vr 25 1 (some 26)) 25 2 (some 27)))
  have hk := hk.r (k := 25) (j := 2) (q := 27) (by decide) (by decide)
  refine X_aload_n 0 rfl (dk KX0_init_0 13 rfl) ?_
  refine X_sipush (dk KX0_init_0 14 rfl) 300 (by decide) ?_
  refine Z_newZ (nc := 9) (ns := 488) (N := 300) rfl (by decide) (by decide) (by decide) hk (by decide) rfl rfl (dk KX0_init_0 15 rfl) ?_
  show X g _ _ _ _ _ _ [(0, .ref 25)] [.ref 28, .ref 25] (HN 29 (u2 vi 25 0 0) vl (u2 (u2 vr 25 1 (some 26)) 25 2 (some 27)))
  have hk := hk.up (n' := 29) (by decide)
  refine X_putRF (h := HN 29 (u2 vi 25 0 0) vl (u2 (u2 vr 25 1 (some 26)) 25 2 (some 27))) (k := 25) (j := 3) (q := 28) CL0 (Nat.le_of_ble_eq_true rfl) rfl (by decide) rfl (fun _ => ⟨rfl, rfl⟩) rfl rfl rfl (tin1 143 rfl rfl) (dk KX0_init_0 16 rfl) ?_
  show X g _ _ _ _ _ _ [(0, .ref 25)] [] (HN 29 (u2 vi 25 0 0) vl (u2 (u2 (u2 vr 25 1 (some 26)) 25 2 (some 27)) 25 3 (some 28)))
  have hk := hk.r (k := 25) (j := 3) (q := 28) (by decide) (by decide)
  refine X_aload_n 0 rfl (dk KX0_init_0 17 rfl) ?_
  refine X_bipush (dk KX0_init_0 18 rfl) 8 (by decide) ?_
  refine X_bipush (dk KX0_init_0 19 rfl) 60 (by decide) ?_
  refine Z_mna (nc := 0) (ns := 0) (N := 8) (K := 60) rfl rfl (by decide) (by decide) rfl (by decide) hk (by decide) rfl rfl (tin1 137 rfl rfl) (dk KX0_init_0 20 rfl) ?_
  show X g _ _ _ _ _ _ [(0, .ref 25)] [.ref 29, .ref 25] (HN 38 (u2 vi 25 0 0) vl (rG (u2 (u2 (u2 vr 25 1 (some 26)) 25 2 (some 27)) 25 3 (some 28)) 29 8))
  have hk := hk.g (N := 8)
  have hk : OKH 38 _ _ _ := hk
  refine X_putRF (h := HN 38 (u2 vi 25 0 0) vl (rG (u2 (u2 (u2 vr 25 1 (some 26)) 25 2 (some 27)) 25 3 (some 28)) 29 8)) (k := 25) (j := 4) (q := 29) CL0 (Nat.le_of_ble_eq_true rfl) rfl (by decide) rfl (fun _ => ⟨rfl, rfl⟩) rfl rfl rfl (tin1 144 rfl rfl) (dk KX0_init_0 21 rfl) ?_
  show X g _ _ _ _ _ _ [(0, .ref 25)] [] (HN 38 (u2 vi 25 0 0) vl (u2 (rG (u2 (u2 (u2 vr 25 1 (some 26)) 25 2 (some 27)) 25 3 (some 28)) 29 8) 25 4 (some 29)))
  have hk := hk.r (k := 25) (j := 4) (q := 29) (by decide) (by decide)
  exact X_return (dk KX0_init_0 22 rfl) rfl ⟨rfl, rfl⟩
end K
def viK_40 (vi : Nat → Nat → Int32) : Nat → Nat → Int32 := (u2 (u2 (u2 (u2 vi 40 1 0) 40 2 0) 40 3 0) 40 4 0)
def vlK_40 (vl : Nat → Nat → Int64) : Nat → Nat → Int64 := vl
def vrK_40 (vr : Nat → Nat → Option Nat) : Nat → Nat → Option Nat := (u2 vr 40 0 (some 1))
theorem sm_40 {vr : Nat → Nat → Option Nat} (hs : SMr vr) : SMr (vrK_40 vr) := by
  have hs := SMr.r (k := 40) (j := 0) (q := 1) hs (by decide)
  exact hs
section K
variable {g : GP} {vi : Nat → Nat → Int32} {vl : Nat → Nat → Int64} {vr : Nat → Nat → Option Nat}
set_option maxRecDepth 100000 in
set_option maxHeartbeats 4000000 in
theorem okh_40 (hk : OKH 41 vi vl vr) : OKH 41 (viK_40 vi) (vlK_40 vl) (vrK_40 vr) := by
  have hk := hk.i (k := 40) (j := 1) (x := 0) (by decide)
  have hk := hk.i (k := 40) (j := 2) (x := 0) (by decide)
  have hk := hk.i (k := 40) (j := 3) (x := 0) (by decide)
  have hk := hk.i (k := 40) (j := 4) (x := 0) (by decide)
  have hk := hk.r (k := 40) (j := 0) (q := 1) (by decide) (by decide)
  exact hk
set_option maxRecDepth 100000 in
set_option maxHeartbeats 8000000 in
theorem kon_40 (hk : OKH 41 vi vl vr) : CON g mX6_init 1 0 0 [.ref 40, .ref 1] (HN 41 vi vl vr) (pS none (HN 41 (viK_40 vi) (vlK_40 vl) (vrK_40 vr))) := by
  refine CON.of (by decide) (by decide) ?_
  show X g _ _ _ _ _ 0 [(0, .ref 40), (1, .ref 1)] [] _
  refine X_aload_n 0 rfl (dk KX6_init_0 0 rfl) ?_
  refine Z_objInit (Nat.le_of_ble_eq_true rfl) (Nat.le_of_ble_eq_true rfl) (tin1 168 rfl rfl) (tin1 22 rfl rfl) (tin1 23 rfl rfl) (dk KX6_init_0 1 rfl) ?_
  refine X_aload_n 0 rfl (dk KX6_init_0 2 rfl) ?_
  refine X_iconst (dk KX6_init_0 3 rfl) 0 (by decide) ?_
  refine X_putI (h := HN 41 vi vl vr) (k := 40) (j := 1) CL6 (Nat.le_of_ble_eq_true rfl) rfl (by decide) rfl rfl (tin1 170 rfl rfl) (dk KX6_init_0 4 rfl) ?_
  show X g _ _ _ _ _ _ [(0, .ref 40), (1, .ref 1)] [] (HN 41 (u2 vi 40 1 0) vl vr)
  have hk := hk.i (k := 40) (j := 1) (x := 0) (by decide)
  refine X_aload_n 0 rfl (dk KX6_init_0 5 rfl) ?_
  refine X_iconst (dk KX6_init_0 6 rfl) 0 (by decide) ?_
  refine X_putI (h := HN 41 (u2 vi 40 1 0) vl vr) (k := 40) (j := 2) CL6 (Nat.le_of_ble_eq_true rfl) rfl (by decide) rfl rfl (tin1 171 rfl rfl) (dk KX6_init_0 7 rfl) ?_
  show X g _ _ _ _ _ _ [(0, .ref 40), (1, .ref 1)] [] (HN 41 (u2 (u2 vi 40 1 0) 40 2 0) vl vr)
  have hk := hk.i (k := 40) (j := 2) (x := 0) (by decide)
  refine X_aload_n 0 rfl (dk KX6_init_0 8 rfl) ?_
  refine X_iconst (dk KX6_init_0 9 rfl) 0 (by decide) ?_
  refine X_putI (h := HN 41 (u2 (u2 vi 40 1 0) 40 2 0) vl vr) (k := 40) (j := 3) CL6 (Nat.le_of_ble_eq_true rfl) rfl (by decide) rfl rfl (tin1 173 rfl rfl) (dk KX6_init_0 10 rfl) ?_
  show X g _ _ _ _ _ _ [(0, .ref 40), (1, .ref 1)] [] (HN 41 (u2 (u2 (u2 vi 40 1 0) 40 2 0) 40 3 0) vl vr)
  have hk := hk.i (k := 40) (j := 3) (x := 0) (by decide)
  refine X_aload_n 0 rfl (dk KX6_init_0 11 rfl) ?_
  refine X_iconst (dk KX6_init_0 12 rfl) 0 (by decide) ?_
  refine X_putI (h := HN 41 (u2 (u2 (u2 vi 40 1 0) 40 2 0) 40 3 0) vl vr) (k := 40) (j := 4) CL6 (Nat.le_of_ble_eq_true rfl) rfl (by decide) rfl rfl (tin1 175 rfl rfl) (dk KX6_init_0 13 rfl) ?_
  show X g _ _ _ _ _ _ [(0, .ref 40), (1, .ref 1)] [] (HN 41 (u2 (u2 (u2 (u2 vi 40 1 0) 40 2 0) 40 3 0) 40 4 0) vl vr)
  have hk := hk.i (k := 40) (j := 4) (x := 0) (by decide)
  refine X_aload_n 0 rfl (dk KX6_init_0 14 rfl) ?_
  refine X_aload_n 1 rfl (dk KX6_init_0 15 rfl) ?_
  refine X_putRF (h := HN 41 (u2 (u2 (u2 (u2 vi 40 1 0) 40 2 0) 40 3 0) 40 4 0) vl vr) (k := 40) (j := 0) (q := 1) CL6 (Nat.le_of_ble_eq_true rfl) rfl (by decide) rfl (fun _ => ⟨rfl, rfl⟩) rfl rfl rfl (tin1 169 rfl rfl) (dk KX6_init_0 16 rfl) ?_
  show X g _ _ _ _ _ _ [(0, .ref 40), (1, .ref 1)] [] (HN 41 (u2 (u2 (u2 (u2 vi 40 1 0) 40 2 0) 40 3 0) 40 4 0) vl (u2 vr 40 0 (some 1)))
  have hk := hk.r (k := 40) (j := 0) (q := 1) (by decide) (by decide)
  exact X_return (dk KX6_init_0 17 rfl) rfl ⟨rfl, rfl⟩
end K
def viK_38 (vi : Nat → Nat → Int32) : Nat → Nat → Int32 := (viK_40 (u2 (u2 (u2 (u2 (u2 (u2 (u2 vi 38 2 0) 38 3 0) 38 4 0) 38 5 0) 38 6 0) 38 7 (-1)) 38 8 (-1)))
def vlK_38 (vl : Nat → Nat → Int64) : Nat → Nat → Int64 := (vlK_40 vl)
def vrK_38 (vr : Nat → Nat → Option Nat) : Nat → Nat → Option Nat := (u2 (vrK_40 (u2 vr 38 1 (some 39))) 38 0 (some 40))
theorem sm_38 {vr : Nat → Nat → Option Nat} (hs : SMr vr) : SMr (vrK_38 vr) := by
  have hs := SMr.r (k := 38) (j := 1) (q := 39) hs (by decide)
  have hs := sm_40 hs
  have hs := SMr.r (k := 38) (j := 0) (q := 40) hs (by decide)
  exact hs
section K
variable {g : GP} {vi : Nat → Nat → Int32} {vl : Nat → Nat → Int64} {vr : Nat → Nat → Option Nat}
set_option maxRecDepth 100000 in
set_option maxHeartbeats 4000000 in
theorem okh_38 (hk : OKH 39 vi vl vr) : OKH 41 (viK_38 vi) (vlK_38 vl) (vrK_38 vr) := by
  have hk := hk.up (n' := 40) (by decide)
  have hk := hk.r (k := 38) (j := 1) (q := 39) (by decide) (by decide)
  have hk := hk.i (k := 38) (j := 2) (x := 0) (by decide)
  have hk := hk.i (k := 38) (j := 3) (x := 0) (by decide)
  have hk := hk.i (k := 38) (j := 4) (x := 0) (by decide)
  have hk := hk.i (k := 38) (j := 5) (x := 0) (by decide)
  have hk := hk.i (k := 38) (j := 6) (x := 0) (by decide)
  have hk := hk.i (k := 38) (j := 7) (x := (-1)) (by decide)
  have hk := hk.i (k := 38) (j := 8) (x := (-1)) (by decide)
  have hk := hk.up (n' := 41) (by decide)
  have hk := okh_40 hk
  have hk := hk.r (k := 38) (j := 0) (q := 40) (by decide) (by decide)
  exact hk
set_option maxRecDepth 100000 in
set_option maxHeartbeats 8000000 in
theorem kon_38 (hk : OKH 39 vi vl vr) : CON g mX4_init 2 2 37 [.ref 38, .ref 1] (HN 39 vi vl vr) (pS none (HN 41 (viK_38 vi) (vlK_38 vl) (vrK_38 vr))) := by
  refine CON.of (by decide) (by decide) ?_
  show X g _ _ _ _ _ 0 [(0, .ref 38), (1, .ref 1)] [] _
  refine X_aload_n 0 rfl (dk KX4_init_0 0 rfl) ?_
  refine Z_objInit (Nat.le_of_ble_eq_true rfl) (Nat.le_of_ble_eq_true rfl) (tin1 162 rfl rfl) (tin1 22 rfl rfl) (tin1 23 rfl rfl) (dk KX4_init_0 1 rfl) ?_
  refine X_aload_n 0 rfl (dk KX4_init_0 2 rfl) ?_
  refine X_bipush (dk KX4_init_0 3 rfl) 32 (by decide) ?_
  refine Z_newI (nc := 1) (ns := 5) (N := 32) rfl (by decide) (by decide) (by decide) hk (by decide) rfl rfl (dk KX4_init_0 4 rfl) ?_
  show X g _ _ _ _ _ _ [(0, .ref 38), (1, .ref 1)] [.ref 39, .ref 38] (HN 40 vi vl vr)
  have hk := hk.up (n' := 40) (by decide)
  refine X_putRF (h := HN 40 vi vl vr) (k := 38) (j := 1) (q := 39) CL4 (Nat.le_of_ble_eq_true rfl) rfl (by decide) rfl (fun _ => ⟨rfl, rfl⟩) rfl rfl rfl (tin1 189 rfl rfl) (dk KX4_init_0 5 rfl) ?_
  show X g _ _ _ _ _ _ [(0, .ref 38), (1, .ref 1)] [] (HN 40 vi vl (u2 vr 38 1 (some 39)))
  have hk := hk.r (k := 38) (j := 1) (q := 39) (by decide) (by decide)
  refine X_aload_n 0 rfl (dk KX4_init_0 6 rfl) ?_
  refine X_iconst (dk KX4_init_0 7 rfl) 0 (by decide) ?_
  refine X_putI (h := HN 40 vi vl (u2 vr 38 1 (some 39))) (k := 38) (j := 2) CL4 (Nat.le_of_ble_eq_true rfl) rfl (by decide) rfl rfl (tin1 190 rfl rfl) (dk KX4_init_0 8 rfl) ?_
  show X g _ _ _ _ _ _ [(0, .ref 38), (1, .ref 1)] [] (HN 40 (u2 vi 38 2 0) vl (u2 vr 38 1 (some 39)))
  have hk := hk.i (k := 38) (j := 2) (x := 0) (by decide)
  refine X_aload_n 0 rfl (dk KX4_init_0 9 rfl) ?_
  refine X_iconst (dk KX4_init_0 10 rfl) 0 (by decide) ?_
  refine X_putI (h := HN 40 (u2 vi 38 2 0) vl (u2 vr 38 1 (some 39))) (k := 38) (j := 3) CL4 (Nat.le_of_ble_eq_true rfl) rfl (by decide) rfl rfl (tin1 191 rfl rfl) (dk KX4_init_0 11 rfl) ?_
  show X g _ _ _ _ _ _ [(0, .ref 38), (1, .ref 1)] [] (HN 40 (u2 (u2 vi 38 2 0) 38 3 0) vl (u2 vr 38 1 (some 39)))
  have hk := hk.i (k := 38) (j := 3) (x := 0) (by decide)
  refine X_aload_n 0 rfl (dk KX4_init_0 12 rfl) ?_
  refine X_iconst (dk KX4_init_0 13 rfl) 0 (by decide) ?_
  refine X_putI (h := HN 40 (u2 (u2 vi 38 2 0) 38 3 0) vl (u2 vr 38 1 (some 39))) (k := 38) (j := 4) CL4 (Nat.le_of_ble_eq_true rfl) rfl (by decide) rfl rfl (tin1 192 rfl rfl) (dk KX4_init_0 14 rfl) ?_
  show X g _ _ _ _ _ _ [(0, .ref 38), (1, .ref 1)] [] (HN 40 (u2 (u2 (u2 vi 38 2 0) 38 3 0) 38 4 0) vl (u2 vr 38 1 (some 39)))
  have hk := hk.i (k := 38) (j := 4) (x := 0) (by decide)
  refine X_aload_n 0 rfl (dk KX4_init_0 15 rfl) ?_
  refine X_iconst (dk KX4_init_0 16 rfl) 0 (by decide) ?_
  refine X_putI (h := HN 40 (u2 (u2 (u2 vi 38 2 0) 38 3 0) 38 4 0) vl (u2 vr 38 1 (some 39))) (k := 38) (j := 5) CL4 (Nat.le_of_ble_eq_true rfl) rfl (by decide) rfl rfl (tin1 193 rfl rfl) (dk KX4_init_0 17 rfl) ?_
  show X g _ _ _ _ _ _ [(0, .ref 38), (1, .ref 1)] [] (HN 40 (u2 (u2 (u2 (u2 vi 38 2 0) 38 3 0) 38 4 0) 38 5 0) vl (u2 vr 38 1 (some 39)))
  have hk := hk.i (k := 38) (j := 5) (x := 0) (by decide)
  refine X_aload_n 0 rfl (dk KX4_init_0 18 rfl) ?_
  refine X_iconst (dk KX4_init_0 19 rfl) 0 (by decide) ?_
  refine X_putI (h := HN 40 (u2 (u2 (u2 (u2 vi 38 2 0) 38 3 0) 38 4 0) 38 5 0) vl (u2 vr 38 1 (some 39))) (k := 38) (j := 6) CL4 (Nat.le_of_ble_eq_true rfl) rfl (by decide) rfl rfl (tin1 194 rfl rfl) (dk KX4_init_0 20 rfl) ?_
  show X g _ _ _ _ _ _ [(0, .ref 38), (1, .ref 1)] [] (HN 40 (u2 (u2 (u2 (u2 (u2 vi 38 2 0) 38 3 0) 38 4 0) 38 5 0) 38 6 0) vl (u2 vr 38 1 (some 39)))
  have hk := hk.i (k := 38) (j := 6) (x := 0) (by decide)
  refine X_aload_n 0 rfl (dk KX4_init_0 21 rfl) ?_
  refine X_iconst (dk KX4_init_0 22 rfl) (-1) (by decide) ?_
  refine X_putI (h := HN 40 (u2 (u2 (u2 (u2 (u2 vi 38 2 0) 38 3 0) 38 4 0) 38 5 0) 38 6 0) vl (u2 vr 38 1 (some 39))) (k := 38) (j := 7) CL4 (Nat.le_of_ble_eq_true rfl) rfl (by decide) rfl rfl (tin1 195 rfl rfl) (dk KX4_init_0 23 rfl) ?_
  show X g _ _ _ _ _ _ [(0, .ref 38), (1, .ref 1)] [] (HN 40 (u2 (u2 (u2 (u2 (u2 (u2 vi 38 2 0) 38 3 0) 38 4 0) 38 5 0) 38 6 0) 38 7 (-1)) vl (u2 vr 38 1 (some 39)))
  have hk := hk.i (k := 38) (j := 7) (x := (-1)) (by decide)
  refine X_aload_n 0 rfl (dk KX4_init_0 24 rfl) ?_
  refine X_iconst (dk KX4_init_0 25 rfl) (-1) (by decide) ?_
  refine X_putI (h := HN 40 (u2 (u2 (u2 (u2 (u2 (u2 vi 38 2 0) 38 3 0) 38 4 0) 38 5 0) 38 6 0) 38 7 (-1)) vl (u2 vr 38 1 (some 39))) (k := 38) (j := 8) CL4 (Nat.le_of_ble_eq_true rfl) rfl (by decide) rfl rfl (tin1 197 rfl rfl) (dk KX4_init_0 26 rfl) ?_
  show X g _ _ _ _ _ _ [(0, .ref 38), (1, .ref 1)] [] (HN 40 (u2 (u2 (u2 (u2 (u2 (u2 (u2 vi 38 2 0) 38 3 0) 38 4 0) 38 5 0) 38 6 0) 38 7 (-1)) 38 8 (-1)) vl (u2 vr 38 1 (some 39)))
  have hk := hk.i (k := 38) (j := 8) (x := (-1)) (by decide)
  refine X_aload_n 0 rfl (dk KX4_init_0 27 rfl) ?_
  refine Z_new (nc := 0) (ns := 0) CL6 df6 rfl hk (by decide) rfl rfl (tin1 163 rfl rfl) (tin1 164 rfl rfl) (tin1 6 rfl rfl) (dk KX4_init_0 28 rfl) ?_
  show X g _ _ _ _ _ _ [(0, .ref 38), (1, .ref 1)] [.ref 40, .ref 38] (HN 41 (u2 (u2 (u2 (u2 (u2 (u2 (u2 vi 38 2 0) 38 3 0) 38 4 0) 38 5 0) 38 6 0) 38 7 (-1)) 38 8 (-1)) vl (u2 vr 38 1 (some 39)))
  have hk := hk.up (n' := 41) (by decide)
  refine X_dup (dk KX4_init_0 29 rfl) rfl ?_
  refine X_aload_n 1 rfl (dk KX4_init_0 30 rfl) ?_
  refine Z_callI (nc := 0) (ns := 0) (av := [.ref 1]) (st := [.ref 40, .ref 38]) (b := 40) (dc := 1) cbX6_init rfl rfl (tin1 165 rfl rfl) (tin1 166 rfl rfl) rfl (Nat.le_of_ble_eq_true rfl) (Nat.le_of_ble_eq_true rfl) (dk KX4_init_0 31 rfl) (kon_40 hk) (by decide) rfl rfl ?_
  show X g _ _ _ _ _ _ [(0, .ref 38), (1, .ref 1)] [.ref 40, .ref 38] (HN 41 (viK_40 (u2 (u2 (u2 (u2 (u2 (u2 (u2 vi 38 2 0) 38 3 0) 38 4 0) 38 5 0) 38 6 0) 38 7 (-1)) 38 8 (-1))) (vlK_40 vl) (vrK_40 (u2 vr 38 1 (some 39))))
  have hk := okh_40 hk
  refine X_putRF (h := HN 41 (viK_40 (u2 (u2 (u2 (u2 (u2 (u2 (u2 vi 38 2 0) 38 3 0) 38 4 0) 38 5 0) 38 6 0) 38 7 (-1)) 38 8 (-1))) (vlK_40 vl) (vrK_40 (u2 vr 38 1 (some 39)))) (k := 38) (j := 0) (q := 40) CL4 (Nat.le_of_ble_eq_true rfl) rfl (by decide) rfl (fun _ => ⟨rfl, rfl⟩) rfl rfl rfl (tin1 188 rfl rfl) (dk KX4_init_0 32 rfl) ?_
  show X g _ _ _ _ _ _ [(0, .ref 38), (1, .ref 1)] [] (HN 41 (viK_40 (u2 (u2 (u2 (u2 (u2 (u2 (u2 vi 38 2 0) 38 3 0) 38 4 0) 38 5 0) 38 6 0) 38 7 (-1)) 38 8 (-1))) (vlK_40 vl) (u2 (vrK_40 (u2 vr 38 1 (some 39))) 38 0 (some 40)))
  have hk := hk.r (k := 38) (j := 0) (q := 40) (by decide) (by decide)
  exact X_return (dk KX4_init_0 33 rfl) rfl ⟨rfl, rfl⟩
end K
def viK_107 (vi : Nat → Nat → Int32) : Nat → Nat → Int32 := (u2 (u2 (u2 vi 107 1 0) 107 2 0) 107 6 0)
def vlK_107 (vl : Nat → Nat → Int64) : Nat → Nat → Int64 := vl
def vrK_107 (vr : Nat → Nat → Option Nat) : Nat → Nat → Option Nat := (u2 (u2 (u2 (u2 (u2 (u2 (u2 (u2 (u2 vr 107 3 (some 108)) 107 4 (some 109)) 107 5 (some 110)) 107 7 (some 111)) 107 8 (some 112)) 107 9 (some 113)) 107 10 (some 114)) 107 11 (some 115)) 107 0 (some 3))
theorem sm_107 {vr : Nat → Nat → Option Nat} (hs : SMr vr) : SMr (vrK_107 vr) := by
  have hs := SMr.r (k := 107) (j := 3) (q := 108) hs (by decide)
  have hs := SMr.r (k := 107) (j := 4) (q := 109) hs (by decide)
  have hs := SMr.r (k := 107) (j := 5) (q := 110) hs (by decide)
  have hs := SMr.r (k := 107) (j := 7) (q := 111) hs (by decide)
  have hs := SMr.r (k := 107) (j := 8) (q := 112) hs (by decide)
  have hs := SMr.r (k := 107) (j := 9) (q := 113) hs (by decide)
  have hs := SMr.r (k := 107) (j := 10) (q := 114) hs (by decide)
  have hs := SMr.r (k := 107) (j := 11) (q := 115) hs (by decide)
  have hs := SMr.r (k := 107) (j := 0) (q := 3) hs (by decide)
  exact hs
section K
variable {g : GP} {vi : Nat → Nat → Int32} {vl : Nat → Nat → Int64} {vr : Nat → Nat → Option Nat}
set_option maxRecDepth 100000 in
set_option maxHeartbeats 4000000 in
theorem okh_107 (hk : OKH 108 vi vl vr) : OKH 116 (viK_107 vi) (vlK_107 vl) (vrK_107 vr) := by
  have hk := hk.i (k := 107) (j := 1) (x := 0) (by decide)
  have hk := hk.i (k := 107) (j := 2) (x := 0) (by decide)
  have hk := hk.up (n' := 109) (by decide)
  have hk := hk.r (k := 107) (j := 3) (q := 108) (by decide) (by decide)
  have hk := hk.up (n' := 110) (by decide)
  have hk := hk.r (k := 107) (j := 4) (q := 109) (by decide) (by decide)
  have hk := hk.up (n' := 111) (by decide)
  have hk := hk.r (k := 107) (j := 5) (q := 110) (by decide) (by decide)
  have hk := hk.i (k := 107) (j := 6) (x := 0) (by decide)
  have hk := hk.up (n' := 112) (by decide)
  have hk := hk.r (k := 107) (j := 7) (q := 111) (by decide) (by decide)
  have hk := hk.up (n' := 113) (by decide)
  have hk := hk.r (k := 107) (j := 8) (q := 112) (by decide) (by decide)
  have hk := hk.up (n' := 114) (by decide)
  have hk := hk.r (k := 107) (j := 9) (q := 113) (by decide) (by decide)
  have hk := hk.up (n' := 115) (by decide)
  have hk := hk.r (k := 107) (j := 10) (q := 114) (by decide) (by decide)
  have hk := hk.up (n' := 116) (by decide)
  have hk := hk.r (k := 107) (j := 11) (q := 115) (by decide) (by decide)
  have hk := hk.r (k := 107) (j := 0) (q := 3) (by decide) (by decide)
  exact hk
set_option maxRecDepth 100000 in
set_option maxHeartbeats 8000000 in
theorem kon_107 (hk : OKH 108 vi vl vr) : CON g mX3_init 1 8 39 [.ref 107, .ref 3] (HN 108 vi vl vr) (pS none (HN 116 (viK_107 vi) (vlK_107 vl) (vrK_107 vr))) := by
  refine CON.of (by decide) (by decide) ?_
  show X g _ _ _ _ _ 0 [(0, .ref 107), (1, .ref 3)] [] _
  refine X_aload_n 0 rfl (dk KX3_init_0 0 rfl) ?_
  refine Z_objInit (Nat.le_of_ble_eq_true rfl) (Nat.le_of_ble_eq_true rfl) (tin1 229 rfl rfl) (tin1 22 rfl rfl) (tin1 23 rfl rfl) (dk KX3_init_0 1 rfl) ?_
  refine X_aload_n 0 rfl (dk KX3_init_0 2 rfl) ?_
  refine X_iconst (dk KX3_init_0 3 rfl) 0 (by decide) ?_
  refine X_putI (h := HN 108 vi vl vr) (k := 107) (j := 1) CL3 (Nat.le_of_ble_eq_true rfl) rfl (by decide) rfl rfl (tin1 231 rfl rfl) (dk KX3_init_0 4 rfl) ?_
  show X g _ _ _ _ _ _ [(0, .ref 107), (1, .ref 3)] [] (HN 108 (u2 vi 107 1 0) vl vr)
  have hk := hk.i (k := 107) (j := 1) (x := 0) (by decide)
  refine X_aload_n 0 rfl (dk KX3_init_0 5 rfl) ?_
  refine X_iconst (dk KX3_init_0 6 rfl) 0 (by decide) ?_
  refine X_putI (h := HN 108 (u2 vi 107 1 0) vl vr) (k := 107) (j := 2) CL3 (Nat.le_of_ble_eq_true rfl) rfl (by decide) rfl rfl (tin1 232 rfl rfl) (dk KX3_init_0 7 rfl) ?_
  show X g _ _ _ _ _ _ [(0, .ref 107), (1, .ref 3)] [] (HN 108 (u2 (u2 vi 107 1 0) 107 2 0) vl vr)
  have hk := hk.i (k := 107) (j := 2) (x := 0) (by decide)
  refine X_aload_n 0 rfl (dk KX3_init_0 8 rfl) ?_
  refine X_bipush (dk KX3_init_0 9 rfl) 6 (by decide) ?_
  refine Z_newI (nc := 7) (ns := 33) (N := 6) rfl (by decide) (by decide) (by decide) hk (by decide) rfl rfl (dk KX3_init_0 10 rfl) ?_
  show X g _ _ _ _ _ _ [(0, .ref 107), (1, .ref 3)] [.ref 108, .ref 107] (HN 109 (u2 (u2 vi 107 1 0) 107 2 0) vl vr)
  have hk := hk.up (n' := 109) (by decide)
  refine X_putRF (h := HN 109 (u2 (u2 vi 107 1 0) 107 2 0) vl vr) (k := 107) (j := 3) (q := 108) CL3 (Nat.le_of_ble_eq_true rfl) rfl (by decide) rfl (fun _ => ⟨rfl, rfl⟩) rfl rfl rfl (tin1 234 rfl rfl) (dk KX3_init_0 11 rfl) ?_
  show X g _ _ _ _ _ _ [(0, .ref 107), (1, .ref 3)] [] (HN 109 (u2 (u2 vi 107 1 0) 107 2 0) vl (u2 vr 107 3 (some 108)))
  have hk := hk.r (k := 107) (j := 3) (q := 108) (by decide) (by decide)
  refine X_aload_n 0 rfl (dk KX3_init_0 12 rfl) ?_
  refine X_bipush (dk KX3_init_0 13 rfl) 6 (by decide) ?_
  refine Z_newI (nc := 6) (ns := 27) (N := 6) rfl (by decide) (by decide) (by decide) hk (by decide) rfl rfl (dk KX3_init_0 14 rfl) ?_
  show X g _ _ _ _ _ _ [(0, .ref 107), (1, .ref 3)] [.ref 109, .ref 107] (HN 110 (u2 (u2 vi 107 1 0) 107 2 0) vl (u2 vr 107 3 (some 108)))
  have hk := hk.up (n' := 110) (by decide)
  refine X_putRF (h := HN 110 (u2 (u2 vi 107 1 0) 107 2 0) vl (u2 vr 107 3 (some 108))) (k := 107) (j := 4) (q := 109) CL3 (Nat.le_of_ble_eq_true rfl) rfl (by decide) rfl (fun _ => ⟨rfl, rfl⟩) rfl rfl rfl (tin1 236 rfl rfl) (dk KX3_init_0 15 rfl) ?_
  show X g _ _ _ _ _ _ [(0, .ref 107), (1, .ref 3)] [] (HN 110 (u2 (u2 vi 107 1 0) 107 2 0) vl (u2 (u2 vr 107 3 (some 108)) 107 4 (some 109)))
  have hk := hk.r (k := 107) (j := 4) (q := 109) (by decide) (by decide)
  refine X_aload_n 0 rfl (dk KX3_init_0 16 rfl) ?_
  refine X_bipush (dk KX3_init_0 17 rfl) 6 (by decide) ?_
  refine Z_newI (nc := 5) (ns := 21) (N := 6) rfl (by decide) (by decide) (by decide) hk (by decide) rfl rfl (dk KX3_init_0 18 rfl) ?_
  show X g _ _ _ _ _ _ [(0, .ref 107), (1, .ref 3)] [.ref 110, .ref 107] (HN 111 (u2 (u2 vi 107 1 0) 107 2 0) vl (u2 (u2 vr 107 3 (some 108)) 107 4 (some 109)))
  have hk := hk.up (n' := 111) (by decide)
  refine X_putRF (h := HN 111 (u2 (u2 vi 107 1 0) 107 2 0) vl (u2 (u2 vr 107 3 (some 108)) 107 4 (some 109))) (k := 107) (j := 5) (q := 110) CL3 (Nat.le_of_ble_eq_true rfl) rfl (by decide) rfl (fun _ => ⟨rfl, rfl⟩) rfl rfl rfl (tin1 237 rfl rfl) (dk KX3_init_0 19 rfl) ?_
  show X g _ _ _ _ _ _ [(0, .ref 107), (1, .ref 3)] [] (HN 111 (u2 (u2 vi 107 1 0) 107 2 0) vl (u2 (u2 (u2 vr 107 3 (some 108)) 107 4 (some 109)) 107 5 (some 110)))
  have hk := hk.r (k := 107) (j := 5) (q := 110) (by decide) (by decide)
  refine X_aload_n 0 rfl (dk KX3_init_0 20 rfl) ?_
  refine X_iconst (dk KX3_init_0 21 rfl) 0 (by decide) ?_
  refine X_putI (h := HN 111 (u2 (u2 vi 107 1 0) 107 2 0) vl (u2 (u2 (u2 vr 107 3 (some 108)) 107 4 (some 109)) 107 5 (some 110))) (k := 107) (j := 6) CL3 (Nat.le_of_ble_eq_true rfl) rfl (by decide) rfl rfl (tin1 239 rfl rfl) (dk KX3_init_0 22 rfl) ?_
  show X g _ _ _ _ _ _ [(0, .ref 107), (1, .ref 3)] [] (HN 111 (u2 (u2 (u2 vi 107 1 0) 107 2 0) 107 6 0) vl (u2 (u2 (u2 vr 107 3 (some 108)) 107 4 (some 109)) 107 5 (some 110)))
  have hk := hk.i (k := 107) (j := 6) (x := 0) (by decide)
  refine X_aload_n 0 rfl (dk KX3_init_0 23 rfl) ?_
  refine X_bipush (dk KX3_init_0 24 rfl) 6 (by decide) ?_
  refine Z_newI (nc := 4) (ns := 15) (N := 6) rfl (by decide) (by decide) (by decide) hk (by decide) rfl rfl (dk KX3_init_0 25 rfl) ?_
  show X g _ _ _ _ _ _ [(0, .ref 107), (1, .ref 3)] [.ref 111, .ref 107] (HN 112 (u2 (u2 (u2 vi 107 1 0) 107 2 0) 107 6 0) vl (u2 (u2 (u2 vr 107 3 (some 108)) 107 4 (some 109)) 107 5 (some 110)))
  have hk := hk.up (n' := 112) (by decide)
  refine X_putRF (h := HN 112 (u2 (u2 (u2 vi 107 1 0) 107 2 0) 107 6 0) vl (u2 (u2 (u2 vr 107 3 (some 108)) 107 4 (some 109)) 107 5 (some 110))) (k := 107) (j := 7) (q := 111) CL3 (Nat.le_of_ble_eq_true rfl) rfl (by decide) rfl (fun _ => ⟨rfl, rfl⟩) rfl rfl rfl (tin2 0 rfl rfl) (dk KX3_init_0 26 rfl) ?_
  show X g _ _ _ _ _ _ [(0, .ref 107), (1, .ref 3)] [] (HN 112 (u2 (u2 (u2 vi 107 1 0) 107 2 0) 107 6 0) vl (u2 (u2 (u2 (u2 vr 107 3 (some 108)) 107 4 (some 109)) 107 5 (some 110)) 107 7 (some 111)))
  have hk := hk.r (k := 107) (j := 7) (q := 111) (by decide) (by decide)
  refine X_aload_n 0 rfl (dk KX3_init_0 27 rfl) ?_
  refine X_bipush (dk KX3_init_0 28 rfl) 6 (by decide) ?_
  refine Z_newI (nc := 3) (ns := 9) (N := 6) rfl (by decide) (by decide) (by decide) hk (by decide) rfl rfl (dk KX3_init_0 29 rfl) ?_
  show X g _ _ _ _ _ _ [(0, .ref 107), (1, .ref 3)] [.ref 112, .ref 107] (HN 113 (u2 (u2 (u2 vi 107 1 0) 107 2 0) 107 6 0) vl (u2 (u2 (u2 (u2 vr 107 3 (some 108)) 107 4 (some 109)) 107 5 (some 110)) 107 7 (some 111)))
  have hk := hk.up (n' := 113) (by decide)
  refine X_putRF (h := HN 113 (u2 (u2 (u2 vi 107 1 0) 107 2 0) 107 6 0) vl (u2 (u2 (u2 (u2 vr 107 3 (some 108)) 107 4 (some 109)) 107 5 (some 110)) 107 7 (some 111))) (k := 107) (j := 8) (q := 112) CL3 (Nat.le_of_ble_eq_true rfl) rfl (by decide) rfl (fun _ => ⟨rfl, rfl⟩) rfl rfl rfl (tin2 1 rfl rfl) (dk KX3_init_0 30 rfl) ?_
  show X g _ _ _ _ _ _ [(0, .ref 107), (1, .ref 3)] [] (HN 113 (u2 (u2 (u2 vi 107 1 0) 107 2 0) 107 6 0) vl (u2 (u2 (u2 (u2 (u2 vr 107 3 (some 108)) 107 4 (some 109)) 107 5 (some 110)) 107 7 (some 111)) 107 8 (some 112)))
  have hk := hk.r (k := 107) (j := 8) (q := 112) (by decide) (by decide)
  refine X_aload_n 0 rfl (dk KX3_init_0 31 rfl) ?_
  refine X_iconst (dk KX3_init_0 32 rfl) 3 (by decide) ?_
  refine Z_newI (nc := 2) (ns := 6) (N := 3) rfl (by decide) (by decide) (by decide) hk (by decide) rfl rfl (dk KX3_init_0 33 rfl) ?_
  show X g _ _ _ _ _ _ [(0, .ref 107), (1, .ref 3)] [.ref 113, .ref 107] (HN 114 (u2 (u2 (u2 vi 107 1 0) 107 2 0) 107 6 0) vl (u2 (u2 (u2 (u2 (u2 vr 107 3 (some 108)) 107 4 (some 109)) 107 5 (some 110)) 107 7 (some 111)) 107 8 (some 112)))
  have hk := hk.up (n' := 114) (by decide)
  refine X_putRF (h := HN 114 (u2 (u2 (u2 vi 107 1 0) 107 2 0) 107 6 0) vl (u2 (u2 (u2 (u2 (u2 vr 107 3 (some 108)) 107 4 (some 109)) 107 5 (some 110)) 107 7 (some 111)) 107 8 (some 112))) (k := 107) (j := 9) (q := 113) CL3 (Nat.le_of_ble_eq_true rfl) rfl (by decide) rfl (fun _ => ⟨rfl, rfl⟩) rfl rfl rfl (tin2 2 rfl rfl) (dk KX3_init_0 34 rfl) ?_
  show X g _ _ _ _ _ _ [(0, .ref 107), (1, .ref 3)] [] (HN 114 (u2 (u2 (u2 vi 107 1 0) 107 2 0) 107 6 0) vl (u2 (u2 (u2 (u2 (u2 (u2 vr 107 3 (some 108)) 107 4 (some 109)) 107 5 (some 110)) 107 7 (some 111)) 107 8 (some 112)) 107 9 (some 113)))
  have hk := hk.r (k := 107) (j := 9) (q := 113) (by decide) (by decide)
  refine X_aload_n 0 rfl (dk KX3_init_0 35 rfl) ?_
  refine X_iconst (dk KX3_init_0 36 rfl) 3 (by decide) ?_
  refine Z_newI (nc := 1) (ns := 3) (N := 3) rfl (by decide) (by decide) (by decide) hk (by decide) rfl rfl (dk KX3_init_0 37 rfl) ?_
  show X g _ _ _ _ _ _ [(0, .ref 107), (1, .ref 3)] [.ref 114, .ref 107] (HN 115 (u2 (u2 (u2 vi 107 1 0) 107 2 0) 107 6 0) vl (u2 (u2 (u2 (u2 (u2 (u2 vr 107 3 (some 108)) 107 4 (some 109)) 107 5 (some 110)) 107 7 (some 111)) 107 8 (some 112)) 107 9 (some 113)))
  have hk := hk.up (n' := 115) (by decide)
  refine X_putRF (h := HN 115 (u2 (u2 (u2 vi 107 1 0) 107 2 0) 107 6 0) vl (u2 (u2 (u2 (u2 (u2 (u2 vr 107 3 (some 108)) 107 4 (some 109)) 107 5 (some 110)) 107 7 (some 111)) 107 8 (some 112)) 107 9 (some 113))) (k := 107) (j := 10) (q := 114) CL3 (Nat.le_of_ble_eq_true rfl) rfl (by decide) rfl (fun _ => ⟨rfl, rfl⟩) rfl rfl rfl (tin2 3 rfl rfl) (dk KX3_init_0 38 rfl) ?_
  show X g _ _ _ _ _ _ [(0, .ref 107), (1, .ref 3)] [] (HN 115 (u2 (u2 (u2 vi 107 1 0) 107 2 0) 107 6 0) vl (u2 (u2 (u2 (u2 (u2 (u2 (u2 vr 107 3 (some 108)) 107 4 (some 109)) 107 5 (some 110)) 107 7 (some 111)) 107 8 (some 112)) 107 9 (some 113)) 107 10 (some 114)))
  have hk := hk.r (k := 107) (j := 10) (q := 114) (by decide) (by decide)
  refine X_aload_n 0 rfl (dk KX3_init_0 39 rfl) ?_
  refine X_iconst (dk KX3_init_0 40 rfl) 3 (by decide) ?_
  refine Z_newI (nc := 0) (ns := 0) (N := 3) rfl (by decide) (by decide) (by decide) hk (by decide) rfl rfl (dk KX3_init_0 41 rfl) ?_
  show X g _ _ _ _ _ _ [(0, .ref 107), (1, .ref 3)] [.ref 115, .ref 107] (HN 116 (u2 (u2 (u2 vi 107 1 0) 107 2 0) 107 6 0) vl (u2 (u2 (u2 (u2 (u2 (u2 (u2 vr 107 3 (some 108)) 107 4 (some 109)) 107 5 (some 110)) 107 7 (some 111)) 107 8 (some 112)) 107 9 (some 113)) 107 10 (some 114)))
  have hk := hk.up (n' := 116) (by decide)
  refine X_putRF (h := HN 116 (u2 (u2 (u2 vi 107 1 0) 107 2 0) 107 6 0) vl (u2 (u2 (u2 (u2 (u2 (u2 (u2 vr 107 3 (some 108)) 107 4 (some 109)) 107 5 (some 110)) 107 7 (some 111)) 107 8 (some 112)) 107 9 (some 113)) 107 10 (some 114))) (k := 107) (j := 11) (q := 115) CL3 (Nat.le_of_ble_eq_true rfl) rfl (by decide) rfl (fun _ => ⟨rfl, rfl⟩) rfl rfl rfl (tin2 4 rfl rfl) (dk KX3_init_0 42 rfl) ?_
  show X g _ _ _ _ _ _ [(0, .ref 107), (1, .ref 3)] [] (HN 116 (u2 (u2 (u2 vi 107 1 0) 107 2 0) 107 6 0) vl (u2 (u2 (u2 (u2 (u2 (u2 (u2 (u2 vr 107 3 (some 108)) 107 4 (some 109)) 107 5 (some 110)) 107 7 (some 111)) 107 8 (some 112)) 107 9 (some 113)) 107 10 (some 114)) 107 11 (some 115)))
  have hk := hk.r (k := 107) (j := 11) (q := 115) (by decide) (by decide)
  refine X_aload_n 0 rfl (dk KX3_init_0 43 rfl) ?_
  refine X_aload_n 1 rfl (dk KX3_init_0 44 rfl) ?_
  refine X_putRF (h := HN 116 (u2 (u2 (u2 vi 107 1 0) 107 2 0) 107 6 0) vl (u2 (u2 (u2 (u2 (u2 (u2 (u2 (u2 vr 107 3 (some 108)) 107 4 (some 109)) 107 5 (some 110)) 107 7 (some 111)) 107 8 (some 112)) 107 9 (some 113)) 107 10 (some 114)) 107 11 (some 115))) (k := 107) (j := 0) (q := 3) CL3 (Nat.le_of_ble_eq_true rfl) rfl (by decide) rfl (fun _ => ⟨rfl, rfl⟩) rfl rfl rfl (tin1 230 rfl rfl) (dk KX3_init_0 45 rfl) ?_
  show X g _ _ _ _ _ _ [(0, .ref 107), (1, .ref 3)] [] (HN 116 (u2 (u2 (u2 vi 107 1 0) 107 2 0) 107 6 0) vl (u2 (u2 (u2 (u2 (u2 (u2 (u2 (u2 (u2 vr 107 3 (some 108)) 107 4 (some 109)) 107 5 (some 110)) 107 7 (some 111)) 107 8 (some 112)) 107 9 (some 113)) 107 10 (some 114)) 107 11 (some 115)) 107 0 (some 3)))
  have hk := hk.r (k := 107) (j := 0) (q := 3) (by decide) (by decide)
  exact X_return (dk KX3_init_0 46 rfl) rfl ⟨rfl, rfl⟩
end K
def viK_41 (vi : Nat → Nat → Int32) : Nat → Nat → Int32 := (viK_107 (u2 vi 41 13 (-1)))
def vlK_41 (vl : Nat → Nat → Int64) : Nat → Nat → Int64 := (vlK_107 vl)
def vrK_41 (vr : Nat → Nat → Option Nat) : Nat → Nat → Option Nat := (u2 (vrK_107 (u2 (u2 (u2 (rG (u2 (rG (u2 (rG (u2 (rG (u2 (rG (u2 (rG (u2 (rG (u2 (rG (u2 (rG (u2 vr 41 3 (some 42)) 43 6) 41 4 (some 43)) 50 6) 41 5 (some 50)) 57 6) 41 6 (some 57)) 64 6) 41 7 (some 64)) 71 6) 41 8 (some 71)) 78 6) 41 9 (some 78)) 85 6) 41 10 (some 85)) 92 8) 41 11 (some 92)) 101 5) 41 12 (some 101)) 41 0 (some 3)) 41 1 (some 25))) 41 2 (some 107))
theorem sm_41 {vr : Nat → Nat → Option Nat} (hs : SMr vr) : SMr (vrK_41 vr) := by
  have hs := SMr.r (k := 41) (j := 3) (q := 42) hs (by decide)
  have hs := SMr.g (N := 6) (n := 43) hs (by decide)
  have hs := SMr.r (k := 41) (j := 4) (q := 43) hs (by decide)
  have hs := SMr.g (N := 6) (n := 50) hs (by decide)
  have hs := SMr.r (k := 41) (j := 5) (q := 50) hs (by decide)
  have hs := SMr.g (N := 6) (n := 57) hs (by decide)
  have hs := SMr.r (k := 41) (j := 6) (q := 57) hs (by decide)
  have hs := SMr.g (N := 6) (n := 64) hs (by decide)
  have hs := SMr.r (k := 41) (j := 7) (q := 64) hs (by decide)
  have hs := SMr.g (N := 6) (n := 71) hs (by decide)
  have hs := SMr.r (k := 41) (j := 8) (q := 71) hs (by decide)
  have hs := SMr.g (N := 6) (n := 78) hs (by decide)
  have hs := SMr.r (k := 41) (j := 9) (q := 78) hs (by decide)
  have hs := SMr.g (N := 6) (n := 85) hs (by decide)
  have hs := SMr.r (k := 41) (j := 10) (q := 85) hs (by decide)
  have hs := SMr.g (N := 8) (n := 92) hs (by decide)
  have hs := SMr.r (k := 41) (j := 11) (q := 92) hs (by decide)
  have hs := SMr.g (N := 5) (n := 101) hs (by decide)
  have hs := SMr.r (k := 41) (j := 12) (q := 101) hs (by decide)
  have hs := SMr.r (k := 41) (j := 0) (q := 3) hs (by decide)
  have hs := SMr.r (k := 41) (j := 1) (q := 25) hs (by decide)
  have hs := sm_107 hs
  have hs := SMr.r (k := 41) (j := 2) (q := 107) hs (by decide)
  exact hs
section K
variable {g : GP} {vi : Nat → Nat → Int32} {vl : Nat → Nat → Int64} {vr : Nat → Nat → Option Nat}
set_option maxRecDepth 100000 in
set_option maxHeartbeats 4000000 in
theorem okh_41 (hk : OKH 42 vi vl vr) : OKH 116 (viK_41 vi) (vlK_41 vl) (vrK_41 vr) := by
  have hk := hk.up (n' := 43) (by decide)
  have hk := hk.r (k := 41) (j := 3) (q := 42) (by decide) (by decide)
  have hk := hk.g (N := 6)
  have hk : OKH 50 _ _ _ := hk
  have hk := hk.r (k := 41) (j := 4) (q := 43) (by decide) (by decide)
  have hk := hk.g (N := 6)
  have hk : OKH 57 _ _ _ := hk
  have hk := hk.r (k := 41) (j := 5) (q := 50) (by decide) (by decide)
  have hk := hk.g (N := 6)
  have hk : OKH 64 _ _ _ := hk
  have hk := hk.r (k := 41) (j := 6) (q := 57) (by decide) (by decide)
  have hk := hk.g (N := 6)
  have hk : OKH 71 _ _ _ := hk
  have hk := hk.r (k := 41) (j := 7) (q := 64) (by decide) (by decide)
  have hk := hk.g (N := 6)
  have hk : OKH 78 _ _ _ := hk
  have hk := hk.r (k := 41) (j := 8) (q := 71) (by decide) (by decide)
  have hk := hk.g (N := 6)
  have hk : OKH 85 _ _ _ := hk
  have hk := hk.r (k := 41) (j := 9) (q := 78) (by decide) (by decide)
  have hk := hk.g (N := 6)
  have hk : OKH 92 _ _ _ := hk
  have hk := hk.r (k := 41) (j := 10) (q := 85) (by decide) (by decide)
  have hk := hk.g (N := 8)
  have hk : OKH 101 _ _ _ := hk
  have hk := hk.r (k := 41) (j := 11) (q := 92) (by decide) (by decide)
  have hk := hk.g (N := 5)
  have hk : OKH 107 _ _ _ := hk
  have hk := hk.r (k := 41) (j := 12) (q := 101) (by decide) (by decide)
  have hk := hk.i (k := 41) (j := 13) (x := (-1)) (by decide)
  have hk := hk.r (k := 41) (j := 0) (q := 3) (by decide) (by decide)
  have hk := hk.r (k := 41) (j := 1) (q := 25) (by decide) (by decide)
  have hk := hk.up (n' := 108) (by decide)
  have hk := okh_107 hk
  have hk := hk.r (k := 41) (j := 2) (q := 107) (by decide) (by decide)
  exact hk
set_option maxRecDepth 100000 in
set_option maxHeartbeats 8000000 in
theorem kon_41 (hk : OKH 42 vi vl vr) : CON g mX1_init 2 74 3414 [.ref 41, .ref 3, .ref 25] (HN 42 vi vl vr) (pS none (HN 116 (viK_41 vi) (vlK_41 vl) (vrK_41 vr))) := by
  refine CON.of (by decide) (by decide) ?_
  show X g _ _ _ _ _ 0 [(0, .ref 41), (1, .ref 3), (2, .ref 25)] [] _
  refine X_aload_n 0 rfl (dk KX1_init_0 0 rfl) ?_
  refine Z_objInit (Nat.le_of_ble_eq_true rfl) (Nat.le_of_ble_eq_true rfl) (tin1 222 rfl rfl) (tin1 22 rfl rfl) (tin1 23 rfl rfl) (dk KX1_init_0 1 rfl) ?_
  refine X_aload_n 0 rfl (dk KX1_init_0 2 rfl) ?_
  refine X_bipush (dk KX1_init_0 3 rfl) 8 (by decide) ?_
  refine Z_newI (nc := 73) (ns := 3406) (N := 8) rfl (by decide) (by decide) (by decide) hk (by decide) rfl rfl (dk KX1_init_0 4 rfl) ?_
  show X g _ _ _ _ _ _ [(0, .ref 41), (1, .ref 3), (2, .ref 25)] [.ref 42, .ref 41] (HN 43 vi vl vr)
  have hk := hk.up (n' := 43) (by decide)
  refine X_putRF (h := HN 43 vi vl vr) (k := 41) (j := 3) (q := 42) CL1 (Nat.le_of_ble_eq_true rfl) rfl (by decide) rfl (fun _ => ⟨rfl, rfl⟩) rfl rfl rfl (tin2 33 rfl rfl) (dk KX1_init_0 5 rfl) ?_
  show X g _ _ _ _ _ _ [(0, .ref 41), (1, .ref 3), (2, .ref 25)] [] (HN 43 vi vl (u2 vr 41 3 (some 42)))
  have hk := hk.r (k := 41) (j := 3) (q := 42) (by decide) (by decide)
  refine X_aload_n 0 rfl (dk KX1_init_0 6 rfl) ?_
  refine X_bipush (dk KX1_init_0 7 rfl) 6 (by decide) ?_
  refine X_bipush (dk KX1_init_0 8 rfl) 60 (by decide) ?_
  refine Z_mna (nc := 66) (ns := 3040) (N := 6) (K := 60) rfl rfl (by decide) (by decide) rfl (by decide) hk (by decide) rfl rfl (tin1 223 rfl rfl) (dk KX1_init_0 9 rfl) ?_
  show X g _ _ _ _ _ _ [(0, .ref 41), (1, .ref 3), (2, .ref 25)] [.ref 43, .ref 41] (HN 50 vi vl (rG (u2 vr 41 3 (some 42)) 43 6))
  have hk := hk.g (N := 6)
  have hk : OKH 50 _ _ _ := hk
  refine X_putRF (h := HN 50 vi vl (rG (u2 vr 41 3 (some 42)) 43 6)) (k := 41) (j := 4) (q := 43) CL1 (Nat.le_of_ble_eq_true rfl) rfl (by decide) rfl (fun _ => ⟨rfl, rfl⟩) rfl rfl rfl (tin2 34 rfl rfl) (dk KX1_init_0 10 rfl) ?_
  show X g _ _ _ _ _ _ [(0, .ref 41), (1, .ref 3), (2, .ref 25)] [] (HN 50 vi vl (u2 (rG (u2 vr 41 3 (some 42)) 43 6) 41 4 (some 43)))
  have hk := hk.r (k := 41) (j := 4) (q := 43) (by decide) (by decide)
  refine X_aload_n 0 rfl (dk KX1_init_0 11 rfl) ?_
  refine X_bipush (dk KX1_init_0 12 rfl) 6 (by decide) ?_
  refine X_bipush (dk KX1_init_0 13 rfl) 60 (by decide) ?_
  refine Z_mna (nc := 59) (ns := 2674) (N := 6) (K := 60) rfl rfl (by decide) (by decide) rfl (by decide) hk (by decide) rfl rfl (tin1 223 rfl rfl) (dk KX1_init_0 14 rfl) ?_
  show X g _ _ _ _ _ _ [(0, .ref 41), (1, .ref 3), (2, .ref 25)] [.ref 50, .ref 41] (HN 57 vi vl (rG (u2 (rG (u2 vr 41 3 (some 42)) 43 6) 41 4 (some 43)) 50 6))
  have hk := hk.g (N := 6)
  have hk : OKH 57 _ _ _ := hk
  refine X_putRF (h := HN 57 vi vl (rG (u2 (rG (u2 vr 41 3 (some 42)) 43 6) 41 4 (some 43)) 50 6)) (k := 41) (j := 5) (q := 50) CL1 (Nat.le_of_ble_eq_true rfl) rfl (by decide) rfl (fun _ => ⟨rfl, rfl⟩) rfl rfl rfl (tin2 36 rfl rfl) (dk KX1_init_0 15 rfl) ?_
  show X g _ _ _ _ _ _ [(0, .ref 41), (1, .ref 3), (2, .ref 25)] [] (HN 57 vi vl (u2 (rG (u2 (rG (u2 vr 41 3 (some 42)) 43 6) 41 4 (some 43)) 50 6) 41 5 (some 50)))
  have hk := hk.r (k := 41) (j := 5) (q := 50) (by decide) (by decide)
  refine X_aload_n 0 rfl (dk KX1_init_0 16 rfl) ?_
  refine X_bipush (dk KX1_init_0 17 rfl) 6 (by decide) ?_
  refine X_bipush (dk KX1_init_0 18 rfl) 60 (by decide) ?_
  refine Z_mna (nc := 52) (ns := 2308) (N := 6) (K := 60) rfl rfl (by decide) (by decide) rfl (by decide) hk (by decide) rfl rfl (tin1 223 rfl rfl) (dk KX1_init_0 19 rfl) ?_
  show X g _ _ _ _ _ _ [(0, .ref 41), (1, .ref 3), (2, .ref 25)] [.ref 57, .ref 41] (HN 64 vi vl (rG (u2 (rG (u2 (rG (u2 vr 41 3 (some 42)) 43 6) 41 4 (some 43)) 50 6) 41 5 (some 50)) 57 6))
  have hk := hk.g (N := 6)
  have hk : OKH 64 _ _ _ := hk
  refine X_putRF (h := HN 64 vi vl (rG (u2 (rG (u2 (rG (u2 vr 41 3 (some 42)) 43 6) 41 4 (some 43)) 50 6) 41 5 (some 50)) 57 6)) (k := 41) (j := 6) (q := 57) CL1 (Nat.le_of_ble_eq_true rfl) rfl (by decide) rfl (fun _ => ⟨rfl, rfl⟩) rfl rfl rfl (tin2 38 rfl rfl) (dk KX1_init_0 20 rfl) ?_
  show X g _ _ _ _ _ _ [(0, .ref 41), (1, .ref 3), (2, .ref 25)] [] (HN 64 vi vl (u2 (rG (u2 (rG (u2 (rG (u2 vr 41 3 (some 42)) 43 6) 41 4 (some 43)) 50 6) 41 5 (some 50)) 57 6) 41 6 (some 57)))
  have hk := hk.r (k := 41) (j := 6) (q := 57) (by decide) (by decide)
  refine X_aload_n 0 rfl (dk KX1_init_0 21 rfl) ?_
  refine X_bipush (dk KX1_init_0 22 rfl) 6 (by decide) ?_
  refine X_bipush (dk KX1_init_0 23 rfl) 60 (by decide) ?_
  refine Z_mna (nc := 45) (ns := 1942) (N := 6) (K := 60) rfl rfl (by decide) (by decide) rfl (by decide) hk (by decide) rfl rfl (tin1 223 rfl rfl) (dk KX1_init_0 24 rfl) ?_
  show X g _ _ _ _ _ _ [(0, .ref 41), (1, .ref 3), (2, .ref 25)] [.ref 64, .ref 41] (HN 71 vi vl (rG (u2 (rG (u2 (rG (u2 (rG (u2 vr 41 3 (some 42)) 43 6) 41 4 (some 43)) 50 6) 41 5 (some 50)) 57 6) 41 6 (some 57)) 64 6))
  have hk := hk.g (N := 6)
  have hk : OKH 71 _ _ _ := hk
  refine X_putRF (h := HN 71 vi vl (rG (u2 (rG (u2 (rG (u2 (rG (u2 vr 41 3 (some 42)) 43 6) 41 4 (some 43)) 50 6) 41 5 (some 50)) 57 6) 41 6 (some 57)) 64 6)) (k := 41) (j := 7) (q := 64) CL1 (Nat.le_of_ble_eq_true rfl) rfl (by decide) rfl (fun _ => ⟨rfl, rfl⟩) rfl rfl rfl (tin2 40 rfl rfl) (dk KX1_init_0 25 rfl) ?_
  show X g _ _ _ _ _ _ [(0, .ref 41), (1, .ref 3), (2, .ref 25)] [] (HN 71 vi vl (u2 (rG (u2 (rG (u2 (rG (u2 (rG (u2 vr 41 3 (some 42)) 43 6) 41 4 (some 43)) 50 6) 41 5 (some 50)) 57 6) 41 6 (some 57)) 64 6) 41 7 (some 64)))
  have hk := hk.r (k := 41) (j := 7) (q := 64) (by decide) (by decide)
  refine X_aload_n 0 rfl (dk KX1_init_0 26 rfl) ?_
  refine X_bipush (dk KX1_init_0 27 rfl) 6 (by decide) ?_
  refine X_bipush (dk KX1_init_0 28 rfl) 60 (by decide) ?_
  refine Z_mna (nc := 38) (ns := 1576) (N := 6) (K := 60) rfl rfl (by decide) (by decide) rfl (by decide) hk (by decide) rfl rfl (tin1 223 rfl rfl) (dk KX1_init_0 29 rfl) ?_
  show X g _ _ _ _ _ _ [(0, .ref 41), (1, .ref 3), (2, .ref 25)] [.ref 71, .ref 41] (HN 78 vi vl (rG (u2 (rG (u2 (rG (u2 (rG (u2 (rG (u2 vr 41 3 (some 42)) 43 6) 41 4 (some 43)) 50 6) 41 5 (some 50)) 57 6) 41 6 (some 57)) 64 6) 41 7 (some 64)) 71 6))
  have hk := hk.g (N := 6)
  have hk : OKH 78 _ _ _ := hk
  refine X_putRF (h := HN 78 vi vl (rG (u2 (rG (u2 (rG (u2 (rG (u2 (rG (u2 vr 41 3 (some 42)) 43 6) 41 4 (some 43)) 50 6) 41 5 (some 50)) 57 6) 41 6 (some 57)) 64 6) 41 7 (some 64)) 71 6)) (k := 41) (j := 8) (q := 71) CL1 (Nat.le_of_ble_eq_true rfl) rfl (by decide) rfl (fun _ => ⟨rfl, rfl⟩) rfl rfl rfl (tin2 42 rfl rfl) (dk KX1_init_0 30 rfl) ?_
  show X g _ _ _ _ _ _ [(0, .ref 41), (1, .ref 3), (2, .ref 25)] [] (HN 78 vi vl (u2 (rG (u2 (rG (u2 (rG (u2 (rG (u2 (rG (u2 vr 41 3 (some 42)) 43 6) 41 4 (some 43)) 50 6) 41 5 (some 50)) 57 6) 41 6 (some 57)) 64 6) 41 7 (some 64)) 71 6) 41 8 (some 71)))
  have hk := hk.r (k := 41) (j := 8) (q := 71) (by decide) (by decide)
  refine X_aload_n 0 rfl (dk KX1_init_0 31 rfl) ?_
  refine X_bipush (dk KX1_init_0 32 rfl) 6 (by decide) ?_
  refine X_bipush (dk KX1_init_0 33 rfl) 60 (by decide) ?_
  refine Z_mna (nc := 31) (ns := 1210) (N := 6) (K := 60) rfl rfl (by decide) (by decide) rfl (by decide) hk (by decide) rfl rfl (tin1 223 rfl rfl) (dk KX1_init_0 34 rfl) ?_
  show X g _ _ _ _ _ _ [(0, .ref 41), (1, .ref 3), (2, .ref 25)] [.ref 78, .ref 41] (HN 85 vi vl (rG (u2 (rG (u2 (rG (u2 (rG (u2 (rG (u2 (rG (u2 vr 41 3 (some 42)) 43 6) 41 4 (some 43)) 50 6) 41 5 (some 50)) 57 6) 41 6 (some 57)) 64 6) 41 7 (some 64)) 71 6) 41 8 (some 71)) 78 6))
  have hk := hk.g (N := 6)
  have hk : OKH 85 _ _ _ := hk
  refine X_putRF (h := HN 85 vi vl (rG (u2 (rG (u2 (rG (u2 (rG (u2 (rG (u2 (rG (u2 vr 41 3 (some 42)) 43 6) 41 4 (some 43)) 50 6) 41 5 (some 50)) 57 6) 41 6 (some 57)) 64 6) 41 7 (some 64)) 71 6) 41 8 (some 71)) 78 6)) (k := 41) (j := 9) (q := 78) CL1 (Nat.le_of_ble_eq_true rfl) rfl (by decide) rfl (fun _ => ⟨rfl, rfl⟩) rfl rfl rfl (tin2 44 rfl rfl) (dk KX1_init_0 35 rfl) ?_
  show X g _ _ _ _ _ _ [(0, .ref 41), (1, .ref 3), (2, .ref 25)] [] (HN 85 vi vl (u2 (rG (u2 (rG (u2 (rG (u2 (rG (u2 (rG (u2 (rG (u2 vr 41 3 (some 42)) 43 6) 41 4 (some 43)) 50 6) 41 5 (some 50)) 57 6) 41 6 (some 57)) 64 6) 41 7 (some 64)) 71 6) 41 8 (some 71)) 78 6) 41 9 (some 78)))
  have hk := hk.r (k := 41) (j := 9) (q := 78) (by decide) (by decide)
  refine X_aload_n 0 rfl (dk KX1_init_0 36 rfl) ?_
  refine X_bipush (dk KX1_init_0 37 rfl) 6 (by decide) ?_
  refine X_bipush (dk KX1_init_0 38 rfl) 60 (by decide) ?_
  refine Z_mna (nc := 24) (ns := 844) (N := 6) (K := 60) rfl rfl (by decide) (by decide) rfl (by decide) hk (by decide) rfl rfl (tin1 223 rfl rfl) (dk KX1_init_0 39 rfl) ?_
  show X g _ _ _ _ _ _ [(0, .ref 41), (1, .ref 3), (2, .ref 25)] [.ref 85, .ref 41] (HN 92 vi vl (rG (u2 (rG (u2 (rG (u2 (rG (u2 (rG (u2 (rG (u2 (rG (u2 vr 41 3 (some 42)) 43 6) 41 4 (some 43)) 50 6) 41 5 (some 50)) 57 6) 41 6 (some 57)) 64 6) 41 7 (some 64)) 71 6) 41 8 (some 71)) 78 6) 41 9 (some 78)) 85 6))
  have hk := hk.g (N := 6)
  have hk : OKH 92 _ _ _ := hk
  refine X_putRF (h := HN 92 vi vl (rG (u2 (rG (u2 (rG (u2 (rG (u2 (rG (u2 (rG (u2 (rG (u2 vr 41 3 (some 42)) 43 6) 41 4 (some 43)) 50 6) 41 5 (some 50)) 57 6) 41 6 (some 57)) 64 6) 41 7 (some 64)) 71 6) 41 8 (some 71)) 78 6) 41 9 (some 78)) 85 6)) (k := 41) (j := 10) (q := 85) CL1 (Nat.le_of_ble_eq_true rfl) rfl (by decide) rfl (fun _ => ⟨rfl, rfl⟩) rfl rfl rfl (tin2 46 rfl rfl) (dk KX1_init_0 40 rfl) ?_
  show X g _ _ _ _ _ _ [(0, .ref 41), (1, .ref 3), (2, .ref 25)] [] (HN 92 vi vl (u2 (rG (u2 (rG (u2 (rG (u2 (rG (u2 (rG (u2 (rG (u2 (rG (u2 vr 41 3 (some 42)) 43 6) 41 4 (some 43)) 50 6) 41 5 (some 50)) 57 6) 41 6 (some 57)) 64 6) 41 7 (some 64)) 71 6) 41 8 (some 71)) 78 6) 41 9 (some 78)) 85 6) 41 10 (some 85)))
  have hk := hk.r (k := 41) (j := 10) (q := 85) (by decide) (by decide)
  refine X_aload_n 0 rfl (dk KX1_init_0 41 rfl) ?_
  refine X_bipush (dk KX1_init_0 42 rfl) 8 (by decide) ?_
  refine X_bipush (dk KX1_init_0 43 rfl) 60 (by decide) ?_
  refine Z_mna (nc := 15) (ns := 356) (N := 8) (K := 60) rfl rfl (by decide) (by decide) rfl (by decide) hk (by decide) rfl rfl (tin1 223 rfl rfl) (dk KX1_init_0 44 rfl) ?_
  show X g _ _ _ _ _ _ [(0, .ref 41), (1, .ref 3), (2, .ref 25)] [.ref 92, .ref 41] (HN 101 vi vl (rG (u2 (rG (u2 (rG (u2 (rG (u2 (rG (u2 (rG (u2 (rG (u2 (rG (u2 vr 41 3 (some 42)) 43 6) 41 4 (some 43)) 50 6) 41 5 (some 50)) 57 6) 41 6 (some 57)) 64 6) 41 7 (some 64)) 71 6) 41 8 (some 71)) 78 6) 41 9 (some 78)) 85 6) 41 10 (some 85)) 92 8))
  have hk := hk.g (N := 8)
  have hk : OKH 101 _ _ _ := hk
  refine X_putRF (h := HN 101 vi vl (rG (u2 (rG (u2 (rG (u2 (rG (u2 (rG (u2 (rG (u2 (rG (u2 (rG (u2 vr 41 3 (some 42)) 43 6) 41 4 (some 43)) 50 6) 41 5 (some 50)) 57 6) 41 6 (some 57)) 64 6) 41 7 (some 64)) 71 6) 41 8 (some 71)) 78 6) 41 9 (some 78)) 85 6) 41 10 (some 85)) 92 8)) (k := 41) (j := 11) (q := 92) CL1 (Nat.le_of_ble_eq_true rfl) rfl (by decide) rfl (fun _ => ⟨rfl, rfl⟩) rfl rfl rfl (tin2 48 rfl rfl) (dk KX1_init_0 45 rfl) ?_
  show X g _ _ _ _ _ _ [(0, .ref 41), (1, .ref 3), (2, .ref 25)] [] (HN 101 vi vl (u2 (rG (u2 (rG (u2 (rG (u2 (rG (u2 (rG (u2 (rG (u2 (rG (u2 (rG (u2 vr 41 3 (some 42)) 43 6) 41 4 (some 43)) 50 6) 41 5 (some 50)) 57 6) 41 6 (some 57)) 64 6) 41 7 (some 64)) 71 6) 41 8 (some 71)) 78 6) 41 9 (some 78)) 85 6) 41 10 (some 85)) 92 8) 41 11 (some 92)))
  have hk := hk.r (k := 41) (j := 11) (q := 92) (by decide) (by decide)
  refine X_aload_n 0 rfl (dk KX1_init_0 46 rfl) ?_
  refine X_iconst (dk KX1_init_0 47 rfl) 5 (by decide) ?_
  refine X_bipush (dk KX1_init_0 48 rfl) 60 (by decide) ?_
  refine Z_mna (nc := 9) (ns := 51) (N := 5) (K := 60) rfl rfl (by decide) (by decide) rfl (by decide) hk (by decide) rfl rfl (tin1 223 rfl rfl) (dk KX1_init_0 49 rfl) ?_
  show X g _ _ _ _ _ _ [(0, .ref 41), (1, .ref 3), (2, .ref 25)] [.ref 101, .ref 41] (HN 107 vi vl (rG (u2 (rG (u2 (rG (u2 (rG (u2 (rG (u2 (rG (u2 (rG (u2 (rG (u2 (rG (u2 vr 41 3 (some 42)) 43 6) 41 4 (some 43)) 50 6) 41 5 (some 50)) 57 6) 41 6 (some 57)) 64 6) 41 7 (some 64)) 71 6) 41 8 (some 71)) 78 6) 41 9 (some 78)) 85 6) 41 10 (some 85)) 92 8) 41 11 (some 92)) 101 5))
  have hk := hk.g (N := 5)
  have hk : OKH 107 _ _ _ := hk
  refine X_putRF (h := HN 107 vi vl (rG (u2 (rG (u2 (rG (u2 (rG (u2 (rG (u2 (rG (u2 (rG (u2 (rG (u2 (rG (u2 vr 41 3 (some 42)) 43 6) 41 4 (some 43)) 50 6) 41 5 (some 50)) 57 6) 41 6 (some 57)) 64 6) 41 7 (some 64)) 71 6) 41 8 (some 71)) 78 6) 41 9 (some 78)) 85 6) 41 10 (some 85)) 92 8) 41 11 (some 92)) 101 5)) (k := 41) (j := 12) (q := 101) CL1 (Nat.le_of_ble_eq_true rfl) rfl (by decide) rfl (fun _ => ⟨rfl, rfl⟩) rfl rfl rfl (tin2 50 rfl rfl) (dk KX1_init_0 50 rfl) ?_
  show X g _ _ _ _ _ _ [(0, .ref 41), (1, .ref 3), (2, .ref 25)] [] (HN 107 vi vl (u2 (rG (u2 (rG (u2 (rG (u2 (rG (u2 (rG (u2 (rG (u2 (rG (u2 (rG (u2 (rG (u2 vr 41 3 (some 42)) 43 6) 41 4 (some 43)) 50 6) 41 5 (some 50)) 57 6) 41 6 (some 57)) 64 6) 41 7 (some 64)) 71 6) 41 8 (some 71)) 78 6) 41 9 (some 78)) 85 6) 41 10 (some 85)) 92 8) 41 11 (some 92)) 101 5) 41 12 (some 101)))
  have hk := hk.r (k := 41) (j := 12) (q := 101) (by decide) (by decide)
  refine X_aload_n 0 rfl (dk KX1_init_0 51 rfl) ?_
  refine X_iconst (dk KX1_init_0 52 rfl) (-1) (by decide) ?_
  refine X_putI (h := HN 107 vi vl (u2 (rG (u2 (rG (u2 (rG (u2 (rG (u2 (rG (u2 (rG (u2 (rG (u2 (rG (u2 (rG (u2 vr 41 3 (some 42)) 43 6) 41 4 (some 43)) 50 6) 41 5 (some 50)) 57 6) 41 6 (some 57)) 64 6) 41 7 (some 64)) 71 6) 41 8 (some 71)) 78 6) 41 9 (some 78)) 85 6) 41 10 (some 85)) 92 8) 41 11 (some 92)) 101 5) 41 12 (some 101))) (k := 41) (j := 13) CL1 (Nat.le_of_ble_eq_true rfl) rfl (by decide) rfl rfl (tin2 52 rfl rfl) (dk KX1_init_0 53 rfl) ?_
  show X g _ _ _ _ _ _ [(0, .ref 41), (1, .ref 3), (2, .ref 25)] [] (HN 107 (u2 vi 41 13 (-1)) vl (u2 (rG (u2 (rG (u2 (rG (u2 (rG (u2 (rG (u2 (rG (u2 (rG (u2 (rG (u2 (rG (u2 vr 41 3 (some 42)) 43 6) 41 4 (some 43)) 50 6) 41 5 (some 50)) 57 6) 41 6 (some 57)) 64 6) 41 7 (some 64)) 71 6) 41 8 (some 71)) 78 6) 41 9 (some 78)) 85 6) 41 10 (some 85)) 92 8) 41 11 (some 92)) 101 5) 41 12 (some 101)))
  have hk := hk.i (k := 41) (j := 13) (x := (-1)) (by decide)
  refine X_aload_n 0 rfl (dk KX1_init_0 54 rfl) ?_
  refine X_aload_n 1 rfl (dk KX1_init_0 55 rfl) ?_
  refine X_putRF (h := HN 107 (u2 vi 41 13 (-1)) vl (u2 (rG (u2 (rG (u2 (rG (u2 (rG (u2 (rG (u2 (rG (u2 (rG (u2 (rG (u2 (rG (u2 vr 41 3 (some 42)) 43 6) 41 4 (some 43)) 50 6) 41 5 (some 50)) 57 6) 41 6 (some 57)) 64 6) 41 7 (some 64)) 71 6) 41 8 (some 71)) 78 6) 41 9 (some 78)) 85 6) 41 10 (some 85)) 92 8) 41 11 (some 92)) 101 5) 41 12 (some 101))) (k := 41) (j := 0) (q := 3) CL1 (Nat.le_of_ble_eq_true rfl) rfl (by decide) rfl (fun _ => ⟨rfl, rfl⟩) rfl rfl rfl (tin2 30 rfl rfl) (dk KX1_init_0 56 rfl) ?_
  show X g _ _ _ _ _ _ [(0, .ref 41), (1, .ref 3), (2, .ref 25)] [] (HN 107 (u2 vi 41 13 (-1)) vl (u2 (u2 (rG (u2 (rG (u2 (rG (u2 (rG (u2 (rG (u2 (rG (u2 (rG (u2 (rG (u2 (rG (u2 vr 41 3 (some 42)) 43 6) 41 4 (some 43)) 50 6) 41 5 (some 50)) 57 6) 41 6 (some 57)) 64 6) 41 7 (some 64)) 71 6) 41 8 (some 71)) 78 6) 41 9 (some 78)) 85 6) 41 10 (some 85)) 92 8) 41 11 (some 92)) 101 5) 41 12 (some 101)) 41 0 (some 3)))
  have hk := hk.r (k := 41) (j := 0) (q := 3) (by decide) (by decide)
  refine X_aload_n 0 rfl (dk KX1_init_0 57 rfl) ?_
  refine X_aload_n 2 rfl (dk KX1_init_0 58 rfl) ?_
  refine X_putRF (h := HN 107 (u2 vi 41 13 (-1)) vl (u2 (u2 (rG (u2 (rG (u2 (rG (u2 (rG (u2 (rG (u2 (rG (u2 (rG (u2 (rG (u2 (rG (u2 vr 41 3 (some 42)) 43 6) 41 4 (some 43)) 50 6) 41 5 (some 50)) 57 6) 41 6 (some 57)) 64 6) 41 7 (some 64)) 71 6) 41 8 (some 71)) 78 6) 41 9 (some 78)) 85 6) 41 10 (some 85)) 92 8) 41 11 (some 92)) 101 5) 41 12 (some 101)) 41 0 (some 3))) (k := 41) (j := 1) (q := 25) CL1 (Nat.le_of_ble_eq_true rfl) rfl (by decide) rfl (fun _ => ⟨rfl, rfl⟩) rfl rfl rfl (tin2 31 rfl rfl) (dk KX1_init_0 59 rfl) ?_
  show X g _ _ _ _ _ _ [(0, .ref 41), (1, .ref 3), (2, .ref 25)] [] (HN 107 (u2 vi 41 13 (-1)) vl (u2 (u2 (u2 (rG (u2 (rG (u2 (rG (u2 (rG (u2 (rG (u2 (rG (u2 (rG (u2 (rG (u2 (rG (u2 vr 41 3 (some 42)) 43 6) 41 4 (some 43)) 50 6) 41 5 (some 50)) 57 6) 41 6 (some 57)) 64 6) 41 7 (some 64)) 71 6) 41 8 (some 71)) 78 6) 41 9 (some 78)) 85 6) 41 10 (some 85)) 92 8) 41 11 (some 92)) 101 5) 41 12 (some 101)) 41 0 (some 3)) 41 1 (some 25)))
  have hk := hk.r (k := 41) (j := 1) (q := 25) (by decide) (by decide)
  refine X_aload_n 0 rfl (dk KX1_init_1 0 rfl) ?_
  refine Z_new (nc := 8) (ns := 39) CL3 df3 rfl hk (by decide) rfl rfl (tin1 224 rfl rfl) (tin1 225 rfl rfl) (tin1 8 rfl rfl) (dk KX1_init_1 1 rfl) ?_
  show X g _ _ _ _ _ _ [(0, .ref 41), (1, .ref 3), (2, .ref 25)] [.ref 107, .ref 41] (HN 108 (u2 vi 41 13 (-1)) vl (u2 (u2 (u2 (rG (u2 (rG (u2 (rG (u2 (rG (u2 (rG (u2 (rG (u2 (rG (u2 (rG (u2 (rG (u2 vr 41 3 (some 42)) 43 6) 41 4 (some 43)) 50 6) 41 5 (some 50)) 57 6) 41 6 (some 57)) 64 6) 41 7 (some 64)) 71 6) 41 8 (some 71)) 78 6) 41 9 (some 78)) 85 6) 41 10 (some 85)) 92 8) 41 11 (some 92)) 101 5) 41 12 (some 101)) 41 0 (some 3)) 41 1 (some 25)))
  have hk := hk.up (n' := 108) (by decide)
  refine X_dup (dk KX1_init_1 2 rfl) rfl ?_
  refine X_aload_n 1 rfl (dk KX1_init_1 3 rfl) ?_
  refine Z_callI (nc := 0) (ns := 0) (av := [.ref 3]) (st := [.ref 107, .ref 41]) (b := 107) (dc := 1) cbX3_init rfl rfl (tin1 226 rfl rfl) (tin1 227 rfl rfl) rfl (Nat.le_of_ble_eq_true rfl) (Nat.le_of_ble_eq_true rfl) (dk KX1_init_1 4 rfl) (kon_107 hk) (by decide) rfl rfl ?_
  show X g _ _ _ _ _ _ [(0, .ref 41), (1, .ref 3), (2, .ref 25)] [.ref 107, .ref 41] (HN 116 (viK_107 (u2 vi 41 13 (-1))) (vlK_107 vl) (vrK_107 (u2 (u2 (u2 (rG (u2 (rG (u2 (rG (u2 (rG (u2 (rG (u2 (rG (u2 (rG (u2 (rG (u2 (rG (u2 vr 41 3 (some 42)) 43 6) 41 4 (some 43)) 50 6) 41 5 (some 50)) 57 6) 41 6 (some 57)) 64 6) 41 7 (some 64)) 71 6) 41 8 (some 71)) 78 6) 41 9 (some 78)) 85 6) 41 10 (some 85)) 92 8) 41 11 (some 92)) 101 5) 41 12 (some 101)) 41 0 (some 3)) 41 1 (some 25))))
  have hk := okh_107 hk
  refine X_putRF (h := HN 116 (viK_107 (u2 vi 41 13 (-1))) (vlK_107 vl) (vrK_107 (u2 (u2 (u2 (rG (u2 (rG (u2 (rG (u2 (rG (u2 (rG (u2 (rG (u2 (rG (u2 (rG (u2 (rG (u2 vr 41 3 (some 42)) 43 6) 41 4 (some 43)) 50 6) 41 5 (some 50)) 57 6) 41 6 (some 57)) 64 6) 41 7 (some 64)) 71 6) 41 8 (some 71)) 78 6) 41 9 (some 78)) 85 6) 41 10 (some 85)) 92 8) 41 11 (some 92)) 101 5) 41 12 (some 101)) 41 0 (some 3)) 41 1 (some 25)))) (k := 41) (j := 2) (q := 107) CL1 (Nat.le_of_ble_eq_true rfl) rfl (by decide) rfl (fun _ => ⟨rfl, rfl⟩) rfl rfl rfl (tin2 32 rfl rfl) (dk KX1_init_1 5 rfl) ?_
  show X g _ _ _ _ _ _ [(0, .ref 41), (1, .ref 3), (2, .ref 25)] [] (HN 116 (viK_107 (u2 vi 41 13 (-1))) (vlK_107 vl) (u2 (vrK_107 (u2 (u2 (u2 (rG (u2 (rG (u2 (rG (u2 (rG (u2 (rG (u2 (rG (u2 (rG (u2 (rG (u2 (rG (u2 vr 41 3 (some 42)) 43 6) 41 4 (some 43)) 50 6) 41 5 (some 50)) 57 6) 41 6 (some 57)) 64 6) 41 7 (some 64)) 71 6) 41 8 (some 71)) 78 6) 41 9 (some 78)) 85 6) 41 10 (some 85)) 92 8) 41 11 (some 92)) 101 5) 41 12 (some 101)) 41 0 (some 3)) 41 1 (some 25))) 41 2 (some 107)))
  have hk := hk.r (k := 41) (j := 2) (q := 107) (by decide) (by decide)
  exact X_return (dk KX1_init_1 6 rfl) rfl ⟨rfl, rfl⟩
end K
def viK_116 (vi : Nat → Nat → Int32) : Nat → Nat → Int32 := (u2 (u2 vi 116 7 0) 116 8 0)
def vlK_116 (vl : Nat → Nat → Int64) : Nat → Nat → Int64 := vl
def vrK_116 (vr : Nat → Nat → Option Nat) : Nat → Nat → Option Nat := (u2 (u2 (u2 (u2 (u2 (u2 (u2 vr 116 0 (some 117)) 116 1 (some 118)) 116 2 (some 119)) 116 3 (some 120)) 116 4 (some 121)) 116 5 (some 122)) 116 6 (some 123))
theorem sm_116 {vr : Nat → Nat → Option Nat} (hs : SMr vr) : SMr (vrK_116 vr) := by
  have hs := SMr.r (k := 116) (j := 0) (q := 117) hs (by decide)
  have hs := SMr.r (k := 116) (j := 1) (q := 118) hs (by decide)
  have hs := SMr.r (k := 116) (j := 2) (q := 119) hs (by decide)
  have hs := SMr.r (k := 116) (j := 3) (q := 120) hs (by decide)
  have hs := SMr.r (k := 116) (j := 4) (q := 121) hs (by decide)
  have hs := SMr.r (k := 116) (j := 5) (q := 122) hs (by decide)
  have hs := SMr.r (k := 116) (j := 6) (q := 123) hs (by decide)
  exact hs
section K
variable {g : GP} {vi : Nat → Nat → Int32} {vl : Nat → Nat → Int64} {vr : Nat → Nat → Option Nat}
set_option maxRecDepth 100000 in
set_option maxHeartbeats 4000000 in
theorem okh_116 (hk : OKH 117 vi vl vr) : OKH 124 (viK_116 vi) (vlK_116 vl) (vrK_116 vr) := by
  have hk := hk.up (n' := 118) (by decide)
  have hk := hk.r (k := 116) (j := 0) (q := 117) (by decide) (by decide)
  have hk := hk.up (n' := 119) (by decide)
  have hk := hk.r (k := 116) (j := 1) (q := 118) (by decide) (by decide)
  have hk := hk.up (n' := 120) (by decide)
  have hk := hk.r (k := 116) (j := 2) (q := 119) (by decide) (by decide)
  have hk := hk.up (n' := 121) (by decide)
  have hk := hk.r (k := 116) (j := 3) (q := 120) (by decide) (by decide)
  have hk := hk.up (n' := 122) (by decide)
  have hk := hk.r (k := 116) (j := 4) (q := 121) (by decide) (by decide)
  have hk := hk.up (n' := 123) (by decide)
  have hk := hk.r (k := 116) (j := 5) (q := 122) (by decide) (by decide)
  have hk := hk.up (n' := 124) (by decide)
  have hk := hk.r (k := 116) (j := 6) (q := 123) (by decide) (by decide)
  have hk := hk.i (k := 116) (j := 7) (x := 0) (by decide)
  have hk := hk.i (k := 116) (j := 8) (x := 0) (by decide)
  exact hk
set_option maxRecDepth 100000 in
set_option maxHeartbeats 8000000 in
theorem kon_116 (hk : OKH 117 vi vl vr) : CON g mX5_init 1 7 532 [.ref 116] (HN 117 vi vl vr) (pS none (HN 124 (viK_116 vi) (vlK_116 vl) (vrK_116 vr))) := by
  refine CON.of (by decide) (by decide) ?_
  show X g _ _ _ _ _ 0 [(0, .ref 116)] [] _
  refine X_aload_n 0 rfl (dk KX5_init_0 0 rfl) ?_
  refine Z_objInit (Nat.le_of_ble_eq_true rfl) (Nat.le_of_ble_eq_true rfl) (tin2 87 rfl rfl) (tin1 22 rfl rfl) (tin1 23 rfl rfl) (dk KX5_init_0 1 rfl) ?_
  refine X_aload_n 0 rfl (dk KX5_init_0 2 rfl) ?_
  refine X_bipush (dk KX5_init_0 3 rfl) 20 (by decide) ?_
  refine Z_newI (nc := 6) (ns := 512) (N := 20) rfl (by decide) (by decide) (by decide) hk (by decide) rfl rfl (dk KX5_init_0 4 rfl) ?_
  show X g _ _ _ _ _ _ [(0, .ref 116)] [.ref 117, .ref 116] (HN 118 vi vl vr)
  have hk := hk.up (n' := 118) (by decide)
  refine X_putRF (h := HN 118 vi vl vr) (k := 116) (j := 0) (q := 117) CL5 (Nat.le_of_ble_eq_true rfl) rfl (by decide) rfl (fun _ => ⟨rfl, rfl⟩) rfl rfl rfl (tin2 88 rfl rfl) (dk KX5_init_0 5 rfl) ?_
  show X g _ _ _ _ _ _ [(0, .ref 116)] [] (HN 118 vi vl (u2 vr 116 0 (some 117)))
  have hk := hk.r (k := 116) (j := 0) (q := 117) (by decide) (by decide)
  refine X_aload_n 0 rfl (dk KX5_init_0 6 rfl) ?_
  refine X_bipush (dk KX5_init_0 7 rfl) 20 (by decide) ?_
  refine Z_newI (nc := 5) (ns := 492) (N := 20) rfl (by decide) (by decide) (by decide) hk (by decide) rfl rfl (dk KX5_init_0 8 rfl) ?_
  show X g _ _ _ _ _ _ [(0, .ref 116)] [.ref 118, .ref 116] (HN 119 vi vl (u2 vr 116 0 (some 117)))
  have hk := hk.up (n' := 119) (by decide)
  refine X_putRF (h := HN 119 vi vl (u2 vr 116 0 (some 117))) (k := 116) (j := 1) (q := 118) CL5 (Nat.le_of_ble_eq_true rfl) rfl (by decide) rfl (fun _ => ⟨rfl, rfl⟩) rfl rfl rfl (tin2 89 rfl rfl) (dk KX5_init_0 9 rfl) ?_
  show X g _ _ _ _ _ _ [(0, .ref 116)] [] (HN 119 vi vl (u2 (u2 vr 116 0 (some 117)) 116 1 (some 118)))
  have hk := hk.r (k := 116) (j := 1) (q := 118) (by decide) (by decide)
  refine X_aload_n 0 rfl (dk KX5_init_0 10 rfl) ?_
  refine X_bipush (dk KX5_init_0 11 rfl) 20 (by decide) ?_
  refine Z_newI (nc := 4) (ns := 472) (N := 20) rfl (by decide) (by decide) (by decide) hk (by decide) rfl rfl (dk KX5_init_0 12 rfl) ?_
  show X g _ _ _ _ _ _ [(0, .ref 116)] [.ref 119, .ref 116] (HN 120 vi vl (u2 (u2 vr 116 0 (some 117)) 116 1 (some 118)))
  have hk := hk.up (n' := 120) (by decide)
  refine X_putRF (h := HN 120 vi vl (u2 (u2 vr 116 0 (some 117)) 116 1 (some 118))) (k := 116) (j := 2) (q := 119) CL5 (Nat.le_of_ble_eq_true rfl) rfl (by decide) rfl (fun _ => ⟨rfl, rfl⟩) rfl rfl rfl (tin2 90 rfl rfl) (dk KX5_init_0 13 rfl) ?_
  show X g _ _ _ _ _ _ [(0, .ref 116)] [] (HN 120 vi vl (u2 (u2 (u2 vr 116 0 (some 117)) 116 1 (some 118)) 116 2 (some 119)))
  have hk := hk.r (k := 116) (j := 2) (q := 119) (by decide) (by decide)
  refine X_aload_n 0 rfl (dk KX5_init_0 14 rfl) ?_
  refine X_bipush (dk KX5_init_0 15 rfl) 20 (by decide) ?_
  refine Z_newI (nc := 3) (ns := 452) (N := 20) rfl (by decide) (by decide) (by decide) hk (by decide) rfl rfl (dk KX5_init_0 16 rfl) ?_
  show X g _ _ _ _ _ _ [(0, .ref 116)] [.ref 120, .ref 116] (HN 121 vi vl (u2 (u2 (u2 vr 116 0 (some 117)) 116 1 (some 118)) 116 2 (some 119)))
  have hk := hk.up (n' := 121) (by decide)
  refine X_putRF (h := HN 121 vi vl (u2 (u2 (u2 vr 116 0 (some 117)) 116 1 (some 118)) 116 2 (some 119))) (k := 116) (j := 3) (q := 120) CL5 (Nat.le_of_ble_eq_true rfl) rfl (by decide) rfl (fun _ => ⟨rfl, rfl⟩) rfl rfl rfl (tin2 91 rfl rfl) (dk KX5_init_0 17 rfl) ?_
  show X g _ _ _ _ _ _ [(0, .ref 116)] [] (HN 121 vi vl (u2 (u2 (u2 (u2 vr 116 0 (some 117)) 116 1 (some 118)) 116 2 (some 119)) 116 3 (some 120)))
  have hk := hk.r (k := 116) (j := 3) (q := 120) (by decide) (by decide)
  refine X_aload_n 0 rfl (dk KX5_init_0 18 rfl) ?_
  refine X_bipush (dk KX5_init_0 19 rfl) 20 (by decide) ?_
  refine Z_newI (nc := 2) (ns := 432) (N := 20) rfl (by decide) (by decide) (by decide) hk (by decide) rfl rfl (dk KX5_init_0 20 rfl) ?_
  show X g _ _ _ _ _ _ [(0, .ref 116)] [.ref 121, .ref 116] (HN 122 vi vl (u2 (u2 (u2 (u2 vr 116 0 (some 117)) 116 1 (some 118)) 116 2 (some 119)) 116 3 (some 120)))
  have hk := hk.up (n' := 122) (by decide)
  refine X_putRF (h := HN 122 vi vl (u2 (u2 (u2 (u2 vr 116 0 (some 117)) 116 1 (some 118)) 116 2 (some 119)) 116 3 (some 120))) (k := 116) (j := 4) (q := 121) CL5 (Nat.le_of_ble_eq_true rfl) rfl (by decide) rfl (fun _ => ⟨rfl, rfl⟩) rfl rfl rfl (tin2 92 rfl rfl) (dk KX5_init_0 21 rfl) ?_
  show X g _ _ _ _ _ _ [(0, .ref 116)] [] (HN 122 vi vl (u2 (u2 (u2 (u2 (u2 vr 116 0 (some 117)) 116 1 (some 118)) 116 2 (some 119)) 116 3 (some 120)) 116 4 (some 121)))
  have hk := hk.r (k := 116) (j := 4) (q := 121) (by decide) (by decide)
  refine X_aload_n 0 rfl (dk KX5_init_0 22 rfl) ?_
  refine X_sipush (dk KX5_init_0 23 rfl) 400 (by decide) ?_
  refine Z_newI (nc := 1) (ns := 32) (N := 400) rfl (by decide) (by decide) (by decide) hk (by decide) rfl rfl (dk KX5_init_0 24 rfl) ?_
  show X g _ _ _ _ _ _ [(0, .ref 116)] [.ref 122, .ref 116] (HN 123 vi vl (u2 (u2 (u2 (u2 (u2 vr 116 0 (some 117)) 116 1 (some 118)) 116 2 (some 119)) 116 3 (some 120)) 116 4 (some 121)))
  have hk := hk.up (n' := 123) (by decide)
  refine X_putRF (h := HN 123 vi vl (u2 (u2 (u2 (u2 (u2 vr 116 0 (some 117)) 116 1 (some 118)) 116 2 (some 119)) 116 3 (some 120)) 116 4 (some 121))) (k := 116) (j := 5) (q := 122) CL5 (Nat.le_of_ble_eq_true rfl) rfl (by decide) rfl (fun _ => ⟨rfl, rfl⟩) rfl rfl rfl (tin2 93 rfl rfl) (dk KX5_init_0 25 rfl) ?_
  show X g _ _ _ _ _ _ [(0, .ref 116)] [] (HN 123 vi vl (u2 (u2 (u2 (u2 (u2 (u2 vr 116 0 (some 117)) 116 1 (some 118)) 116 2 (some 119)) 116 3 (some 120)) 116 4 (some 121)) 116 5 (some 122)))
  have hk := hk.r (k := 116) (j := 5) (q := 122) (by decide) (by decide)
  refine X_aload_n 0 rfl (dk KX5_init_0 26 rfl) ?_
  refine X_bipush (dk KX5_init_0 27 rfl) 32 (by decide) ?_
  refine Z_newI (nc := 0) (ns := 0) (N := 32) rfl (by decide) (by decide) (by decide) hk (by decide) rfl rfl (dk KX5_init_0 28 rfl) ?_
  show X g _ _ _ _ _ _ [(0, .ref 116)] [.ref 123, .ref 116] (HN 124 vi vl (u2 (u2 (u2 (u2 (u2 (u2 vr 116 0 (some 117)) 116 1 (some 118)) 116 2 (some 119)) 116 3 (some 120)) 116 4 (some 121)) 116 5 (some 122)))
  have hk := hk.up (n' := 124) (by decide)
  refine X_putRF (h := HN 124 vi vl (u2 (u2 (u2 (u2 (u2 (u2 vr 116 0 (some 117)) 116 1 (some 118)) 116 2 (some 119)) 116 3 (some 120)) 116 4 (some 121)) 116 5 (some 122))) (k := 116) (j := 6) (q := 123) CL5 (Nat.le_of_ble_eq_true rfl) rfl (by decide) rfl (fun _ => ⟨rfl, rfl⟩) rfl rfl rfl (tin2 94 rfl rfl) (dk KX5_init_0 29 rfl) ?_
  show X g _ _ _ _ _ _ [(0, .ref 116)] [] (HN 124 vi vl (u2 (u2 (u2 (u2 (u2 (u2 (u2 vr 116 0 (some 117)) 116 1 (some 118)) 116 2 (some 119)) 116 3 (some 120)) 116 4 (some 121)) 116 5 (some 122)) 116 6 (some 123)))
  have hk := hk.r (k := 116) (j := 6) (q := 123) (by decide) (by decide)
  refine X_aload_n 0 rfl (dk KX5_init_0 30 rfl) ?_
  refine X_iconst (dk KX5_init_0 31 rfl) 0 (by decide) ?_
  refine X_putI (h := HN 124 vi vl (u2 (u2 (u2 (u2 (u2 (u2 (u2 vr 116 0 (some 117)) 116 1 (some 118)) 116 2 (some 119)) 116 3 (some 120)) 116 4 (some 121)) 116 5 (some 122)) 116 6 (some 123))) (k := 116) (j := 7) CL5 (Nat.le_of_ble_eq_true rfl) rfl (by decide) rfl rfl (tin2 95 rfl rfl) (dk KX5_init_0 32 rfl) ?_
  show X g _ _ _ _ _ _ [(0, .ref 116)] [] (HN 124 (u2 vi 116 7 0) vl (u2 (u2 (u2 (u2 (u2 (u2 (u2 vr 116 0 (some 117)) 116 1 (some 118)) 116 2 (some 119)) 116 3 (some 120)) 116 4 (some 121)) 116 5 (some 122)) 116 6 (some 123)))
  have hk := hk.i (k := 116) (j := 7) (x := 0) (by decide)
  refine X_aload_n 0 rfl (dk KX5_init_0 33 rfl) ?_
  refine X_iconst (dk KX5_init_0 34 rfl) 0 (by decide) ?_
  refine X_putI (h := HN 124 (u2 vi 116 7 0) vl (u2 (u2 (u2 (u2 (u2 (u2 (u2 vr 116 0 (some 117)) 116 1 (some 118)) 116 2 (some 119)) 116 3 (some 120)) 116 4 (some 121)) 116 5 (some 122)) 116 6 (some 123))) (k := 116) (j := 8) CL5 (Nat.le_of_ble_eq_true rfl) rfl (by decide) rfl rfl (tin2 98 rfl rfl) (dk KX5_init_0 35 rfl) ?_
  show X g _ _ _ _ _ _ [(0, .ref 116)] [] (HN 124 (u2 (u2 vi 116 7 0) 116 8 0) vl (u2 (u2 (u2 (u2 (u2 (u2 (u2 vr 116 0 (some 117)) 116 1 (some 118)) 116 2 (some 119)) 116 3 (some 120)) 116 4 (some 121)) 116 5 (some 122)) 116 6 (some 123)))
  have hk := hk.i (k := 116) (j := 8) (x := 0) (by decide)
  exact X_return (dk KX5_init_0 36 rfl) rfl ⟨rfl, rfl⟩
end K
def viK_124 (vi : Nat → Nat → Int32) : Nat → Nat → Int32 := (u2 (u2 vi 124 7 0) 124 8 0)
def vlK_124 (vl : Nat → Nat → Int64) : Nat → Nat → Int64 := vl
def vrK_124 (vr : Nat → Nat → Option Nat) : Nat → Nat → Option Nat := (u2 (u2 (u2 (u2 (u2 (u2 (u2 vr 124 0 (some 125)) 124 1 (some 126)) 124 2 (some 127)) 124 3 (some 128)) 124 4 (some 129)) 124 5 (some 130)) 124 6 (some 131))
theorem sm_124 {vr : Nat → Nat → Option Nat} (hs : SMr vr) : SMr (vrK_124 vr) := by
  have hs := SMr.r (k := 124) (j := 0) (q := 125) hs (by decide)
  have hs := SMr.r (k := 124) (j := 1) (q := 126) hs (by decide)
  have hs := SMr.r (k := 124) (j := 2) (q := 127) hs (by decide)
  have hs := SMr.r (k := 124) (j := 3) (q := 128) hs (by decide)
  have hs := SMr.r (k := 124) (j := 4) (q := 129) hs (by decide)
  have hs := SMr.r (k := 124) (j := 5) (q := 130) hs (by decide)
  have hs := SMr.r (k := 124) (j := 6) (q := 131) hs (by decide)
  exact hs
section K
variable {g : GP} {vi : Nat → Nat → Int32} {vl : Nat → Nat → Int64} {vr : Nat → Nat → Option Nat}
set_option maxRecDepth 100000 in
set_option maxHeartbeats 4000000 in
theorem okh_124 (hk : OKH 125 vi vl vr) : OKH 132 (viK_124 vi) (vlK_124 vl) (vrK_124 vr) := by
  have hk := hk.up (n' := 126) (by decide)
  have hk := hk.r (k := 124) (j := 0) (q := 125) (by decide) (by decide)
  have hk := hk.up (n' := 127) (by decide)
  have hk := hk.r (k := 124) (j := 1) (q := 126) (by decide) (by decide)
  have hk := hk.up (n' := 128) (by decide)
  have hk := hk.r (k := 124) (j := 2) (q := 127) (by decide) (by decide)
  have hk := hk.up (n' := 129) (by decide)
  have hk := hk.r (k := 124) (j := 3) (q := 128) (by decide) (by decide)
  have hk := hk.up (n' := 130) (by decide)
  have hk := hk.r (k := 124) (j := 4) (q := 129) (by decide) (by decide)
  have hk := hk.up (n' := 131) (by decide)
  have hk := hk.r (k := 124) (j := 5) (q := 130) (by decide) (by decide)
  have hk := hk.up (n' := 132) (by decide)
  have hk := hk.r (k := 124) (j := 6) (q := 131) (by decide) (by decide)
  have hk := hk.i (k := 124) (j := 7) (x := 0) (by decide)
  have hk := hk.i (k := 124) (j := 8) (x := 0) (by decide)
  exact hk
set_option maxRecDepth 100000 in
set_option maxHeartbeats 8000000 in
theorem kon_124 (hk : OKH 125 vi vl vr) : CON g mX5_init 1 7 532 [.ref 124] (HN 125 vi vl vr) (pS none (HN 132 (viK_124 vi) (vlK_124 vl) (vrK_124 vr))) := by
  refine CON.of (by decide) (by decide) ?_
  show X g _ _ _ _ _ 0 [(0, .ref 124)] [] _
  refine X_aload_n 0 rfl (dk KX5_init_0 0 rfl) ?_
  refine Z_objInit (Nat.le_of_ble_eq_true rfl) (Nat.le_of_ble_eq_true rfl) (tin2 87 rfl rfl) (tin1 22 rfl rfl) (tin1 23 rfl rfl) (dk KX5_init_0 1 rfl) ?_
  refine X_aload_n 0 rfl (dk KX5_init_0 2 rfl) ?_
  refine X_bipush (dk KX5_init_0 3 rfl) 20 (by decide) ?_
  refine Z_newI (nc := 6) (ns := 512) (N := 20) rfl (by decide) (by decide) (by decide) hk (by decide) rfl rfl (dk KX5_init_0 4 rfl) ?_
  show X g _ _ _ _ _ _ [(0, .ref 124)] [.ref 125, .ref 124] (HN 126 vi vl vr)
  have hk := hk.up (n' := 126) (by decide)
  refine X_putRF (h := HN 126 vi vl vr) (k := 124) (j := 0) (q := 125) CL5 (Nat.le_of_ble_eq_true rfl) rfl (by decide) rfl (fun _ => ⟨rfl, rfl⟩) rfl rfl rfl (tin2 88 rfl rfl) (dk KX5_init_0 5 rfl) ?_
  show X g _ _ _ _ _ _ [(0, .ref 124)] [] (HN 126 vi vl (u2 vr 124 0 (some 125)))
  have hk := hk.r (k := 124) (j := 0) (q := 125) (by decide) (by decide)
  refine X_aload_n 0 rfl (dk KX5_init_0 6 rfl) ?_
  refine X_bipush (dk KX5_init_0 7 rfl) 20 (by decide) ?_
  refine Z_newI (nc := 5) (ns := 492) (N := 20) rfl (by decide) (by decide) (by decide) hk (by decide) rfl rfl (dk KX5_init_0 8 rfl) ?_
  show X g _ _ _ _ _ _ [(0, .ref 124)] [.ref 126, .ref 124] (HN 127 vi vl (u2 vr 124 0 (some 125)))
  have hk := hk.up (n' := 127) (by decide)
  refine X_putRF (h := HN 127 vi vl (u2 vr 124 0 (some 125))) (k := 124) (j := 1) (q := 126) CL5 (Nat.le_of_ble_eq_true rfl) rfl (by decide) rfl (fun _ => ⟨rfl, rfl⟩) rfl rfl rfl (tin2 89 rfl rfl) (dk KX5_init_0 9 rfl) ?_
  show X g _ _ _ _ _ _ [(0, .ref 124)] [] (HN 127 vi vl (u2 (u2 vr 124 0 (some 125)) 124 1 (some 126)))
  have hk := hk.r (k := 124) (j := 1) (q := 126) (by decide) (by decide)
  refine X_aload_n 0 rfl (dk KX5_init_0 10 rfl) ?_
  refine X_bipush (dk KX5_init_0 11 rfl) 20 (by decide) ?_
  refine Z_newI (nc := 4) (ns := 472) (N := 20) rfl (by decide) (by decide) (by decide) hk (by decide) rfl rfl (dk KX5_init_0 12 rfl) ?_
  show X g _ _ _ _ _ _ [(0, .ref 124)] [.ref 127, .ref 124] (HN 128 vi vl (u2 (u2 vr 124 0 (some 125)) 124 1 (some 126)))
  have hk := hk.up (n' := 128) (by decide)
  refine X_putRF (h := HN 128 vi vl (u2 (u2 vr 124 0 (some 125)) 124 1 (some 126))) (k := 124) (j := 2) (q := 127) CL5 (Nat.le_of_ble_eq_true rfl) rfl (by decide) rfl (fun _ => ⟨rfl, rfl⟩) rfl rfl rfl (tin2 90 rfl rfl) (dk KX5_init_0 13 rfl) ?_
  show X g _ _ _ _ _ _ [(0, .ref 124)] [] (HN 128 vi vl (u2 (u2 (u2 vr 124 0 (some 125)) 124 1 (some 126)) 124 2 (some 127)))
  have hk := hk.r (k := 124) (j := 2) (q := 127) (by decide) (by decide)
  refine X_aload_n 0 rfl (dk KX5_init_0 14 rfl) ?_
  refine X_bipush (dk KX5_init_0 15 rfl) 20 (by decide) ?_
  refine Z_newI (nc := 3) (ns := 452) (N := 20) rfl (by decide) (by decide) (by decide) hk (by decide) rfl rfl (dk KX5_init_0 16 rfl) ?_
  show X g _ _ _ _ _ _ [(0, .ref 124)] [.ref 128, .ref 124] (HN 129 vi vl (u2 (u2 (u2 vr 124 0 (some 125)) 124 1 (some 126)) 124 2 (some 127)))
  have hk := hk.up (n' := 129) (by decide)
  refine X_putRF (h := HN 129 vi vl (u2 (u2 (u2 vr 124 0 (some 125)) 124 1 (some 126)) 124 2 (some 127))) (k := 124) (j := 3) (q := 128) CL5 (Nat.le_of_ble_eq_true rfl) rfl (by decide) rfl (fun _ => ⟨rfl, rfl⟩) rfl rfl rfl (tin2 91 rfl rfl) (dk KX5_init_0 17 rfl) ?_
  show X g _ _ _ _ _ _ [(0, .ref 124)] [] (HN 129 vi vl (u2 (u2 (u2 (u2 vr 124 0 (some 125)) 124 1 (some 126)) 124 2 (some 127)) 124 3 (some 128)))
  have hk := hk.r (k := 124) (j := 3) (q := 128) (by decide) (by decide)
  refine X_aload_n 0 rfl (dk KX5_init_0 18 rfl) ?_
  refine X_bipush (dk KX5_init_0 19 rfl) 20 (by decide) ?_
  refine Z_newI (nc := 2) (ns := 432) (N := 20) rfl (by decide) (by decide) (by decide) hk (by decide) rfl rfl (dk KX5_init_0 20 rfl) ?_
  show X g _ _ _ _ _ _ [(0, .ref 124)] [.ref 129, .ref 124] (HN 130 vi vl (u2 (u2 (u2 (u2 vr 124 0 (some 125)) 124 1 (some 126)) 124 2 (some 127)) 124 3 (some 128)))
  have hk := hk.up (n' := 130) (by decide)
  refine X_putRF (h := HN 130 vi vl (u2 (u2 (u2 (u2 vr 124 0 (some 125)) 124 1 (some 126)) 124 2 (some 127)) 124 3 (some 128))) (k := 124) (j := 4) (q := 129) CL5 (Nat.le_of_ble_eq_true rfl) rfl (by decide) rfl (fun _ => ⟨rfl, rfl⟩) rfl rfl rfl (tin2 92 rfl rfl) (dk KX5_init_0 21 rfl) ?_
  show X g _ _ _ _ _ _ [(0, .ref 124)] [] (HN 130 vi vl (u2 (u2 (u2 (u2 (u2 vr 124 0 (some 125)) 124 1 (some 126)) 124 2 (some 127)) 124 3 (some 128)) 124 4 (some 129)))
  have hk := hk.r (k := 124) (j := 4) (q := 129) (by decide) (by decide)
  refine X_aload_n 0 rfl (dk KX5_init_0 22 rfl) ?_
  refine X_sipush (dk KX5_init_0 23 rfl) 400 (by decide) ?_
  refine Z_newI (nc := 1) (ns := 32) (N := 400) rfl (by decide) (by decide) (by decide) hk (by decide) rfl rfl (dk KX5_init_0 24 rfl) ?_
  show X g _ _ _ _ _ _ [(0, .ref 124)] [.ref 130, .ref 124] (HN 131 vi vl (u2 (u2 (u2 (u2 (u2 vr 124 0 (some 125)) 124 1 (some 126)) 124 2 (some 127)) 124 3 (some 128)) 124 4 (some 129)))
  have hk := hk.up (n' := 131) (by decide)
  refine X_putRF (h := HN 131 vi vl (u2 (u2 (u2 (u2 (u2 vr 124 0 (some 125)) 124 1 (some 126)) 124 2 (some 127)) 124 3 (some 128)) 124 4 (some 129))) (k := 124) (j := 5) (q := 130) CL5 (Nat.le_of_ble_eq_true rfl) rfl (by decide) rfl (fun _ => ⟨rfl, rfl⟩) rfl rfl rfl (tin2 93 rfl rfl) (dk KX5_init_0 25 rfl) ?_
  show X g _ _ _ _ _ _ [(0, .ref 124)] [] (HN 131 vi vl (u2 (u2 (u2 (u2 (u2 (u2 vr 124 0 (some 125)) 124 1 (some 126)) 124 2 (some 127)) 124 3 (some 128)) 124 4 (some 129)) 124 5 (some 130)))
  have hk := hk.r (k := 124) (j := 5) (q := 130) (by decide) (by decide)
  refine X_aload_n 0 rfl (dk KX5_init_0 26 rfl) ?_
  refine X_bipush (dk KX5_init_0 27 rfl) 32 (by decide) ?_
  refine Z_newI (nc := 0) (ns := 0) (N := 32) rfl (by decide) (by decide) (by decide) hk (by decide) rfl rfl (dk KX5_init_0 28 rfl) ?_
  show X g _ _ _ _ _ _ [(0, .ref 124)] [.ref 131, .ref 124] (HN 132 vi vl (u2 (u2 (u2 (u2 (u2 (u2 vr 124 0 (some 125)) 124 1 (some 126)) 124 2 (some 127)) 124 3 (some 128)) 124 4 (some 129)) 124 5 (some 130)))
  have hk := hk.up (n' := 132) (by decide)
  refine X_putRF (h := HN 132 vi vl (u2 (u2 (u2 (u2 (u2 (u2 vr 124 0 (some 125)) 124 1 (some 126)) 124 2 (some 127)) 124 3 (some 128)) 124 4 (some 129)) 124 5 (some 130))) (k := 124) (j := 6) (q := 131) CL5 (Nat.le_of_ble_eq_true rfl) rfl (by decide) rfl (fun _ => ⟨rfl, rfl⟩) rfl rfl rfl (tin2 94 rfl rfl) (dk KX5_init_0 29 rfl) ?_
  show X g _ _ _ _ _ _ [(0, .ref 124)] [] (HN 132 vi vl (u2 (u2 (u2 (u2 (u2 (u2 (u2 vr 124 0 (some 125)) 124 1 (some 126)) 124 2 (some 127)) 124 3 (some 128)) 124 4 (some 129)) 124 5 (some 130)) 124 6 (some 131)))
  have hk := hk.r (k := 124) (j := 6) (q := 131) (by decide) (by decide)
  refine X_aload_n 0 rfl (dk KX5_init_0 30 rfl) ?_
  refine X_iconst (dk KX5_init_0 31 rfl) 0 (by decide) ?_
  refine X_putI (h := HN 132 vi vl (u2 (u2 (u2 (u2 (u2 (u2 (u2 vr 124 0 (some 125)) 124 1 (some 126)) 124 2 (some 127)) 124 3 (some 128)) 124 4 (some 129)) 124 5 (some 130)) 124 6 (some 131))) (k := 124) (j := 7) CL5 (Nat.le_of_ble_eq_true rfl) rfl (by decide) rfl rfl (tin2 95 rfl rfl) (dk KX5_init_0 32 rfl) ?_
  show X g _ _ _ _ _ _ [(0, .ref 124)] [] (HN 132 (u2 vi 124 7 0) vl (u2 (u2 (u2 (u2 (u2 (u2 (u2 vr 124 0 (some 125)) 124 1 (some 126)) 124 2 (some 127)) 124 3 (some 128)) 124 4 (some 129)) 124 5 (some 130)) 124 6 (some 131)))
  have hk := hk.i (k := 124) (j := 7) (x := 0) (by decide)
  refine X_aload_n 0 rfl (dk KX5_init_0 33 rfl) ?_
  refine X_iconst (dk KX5_init_0 34 rfl) 0 (by decide) ?_
  refine X_putI (h := HN 132 (u2 vi 124 7 0) vl (u2 (u2 (u2 (u2 (u2 (u2 (u2 vr 124 0 (some 125)) 124 1 (some 126)) 124 2 (some 127)) 124 3 (some 128)) 124 4 (some 129)) 124 5 (some 130)) 124 6 (some 131))) (k := 124) (j := 8) CL5 (Nat.le_of_ble_eq_true rfl) rfl (by decide) rfl rfl (tin2 98 rfl rfl) (dk KX5_init_0 35 rfl) ?_
  show X g _ _ _ _ _ _ [(0, .ref 124)] [] (HN 132 (u2 (u2 vi 124 7 0) 124 8 0) vl (u2 (u2 (u2 (u2 (u2 (u2 (u2 vr 124 0 (some 125)) 124 1 (some 126)) 124 2 (some 127)) 124 3 (some 128)) 124 4 (some 129)) 124 5 (some 130)) 124 6 (some 131)))
  have hk := hk.i (k := 124) (j := 8) (x := 0) (by decide)
  exact X_return (dk KX5_init_0 36 rfl) rfl ⟨rfl, rfl⟩
end K
def viK_0 (vi : Nat → Nat → Int32) : Nat → Nat → Int32 := (viK_124 (viK_116 (viK_41 (viK_38 (viK_25 (viK_3 (viK_1 vi)))))))
def vlK_0 (vl : Nat → Nat → Int64) : Nat → Nat → Int64 := (vlK_124 (vlK_116 (vlK_41 (vlK_38 (vlK_25 (vlK_3 (vlK_1 vl)))))))
def vrK_0 (vr : Nat → Nat → Option Nat) : Nat → Nat → Option Nat := (u2 (vrK_124 (u2 (vrK_116 (u2 (vrK_41 (u2 (u2 (u2 (vrK_38 (u2 (vrK_25 (vrK_3 (vrK_1 vr))) 0 0 (some 1))) 0 1 (some 38)) 0 2 (some 3)) 0 3 (some 25))) 0 4 (some 41))) 0 5 (some 116))) 0 6 (some 124))
theorem sm_0 {vr : Nat → Nat → Option Nat} (hs : SMr vr) : SMr (vrK_0 vr) := by
  have hs := sm_1 hs
  have hs := sm_3 hs
  have hs := sm_25 hs
  have hs := SMr.r (k := 0) (j := 0) (q := 1) hs (by decide)
  have hs := sm_38 hs
  have hs := SMr.r (k := 0) (j := 1) (q := 38) hs (by decide)
  have hs := SMr.r (k := 0) (j := 2) (q := 3) hs (by decide)
  have hs := SMr.r (k := 0) (j := 3) (q := 25) hs (by decide)
  have hs := sm_41 hs
  have hs := SMr.r (k := 0) (j := 4) (q := 41) hs (by decide)
  have hs := sm_116 hs
  have hs := SMr.r (k := 0) (j := 5) (q := 116) hs (by decide)
  have hs := sm_124 hs
  have hs := SMr.r (k := 0) (j := 6) (q := 124) hs (by decide)
  exact hs
section K
variable {g : GP} {vi : Nat → Nat → Int32} {vl : Nat → Nat → Int64} {vr : Nat → Nat → Option Nat}
set_option maxRecDepth 100000 in
set_option maxHeartbeats 4000000 in
theorem okh_0 (hk : OKH 1 vi vl vr) : OKH 132 (viK_0 vi) (vlK_0 vl) (vrK_0 vr) := by
  have hk := hk.up (n' := 2) (by decide)
  have hk := okh_1 hk
  have hk := hk.up (n' := 4) (by decide)
  have hk := okh_3 hk
  have hk := hk.up (n' := 26) (by decide)
  have hk := okh_25 hk
  have hk := hk.r (k := 0) (j := 0) (q := 1) (by decide) (by decide)
  have hk := hk.up (n' := 39) (by decide)
  have hk := okh_38 hk
  have hk := hk.r (k := 0) (j := 1) (q := 38) (by decide) (by decide)
  have hk := hk.r (k := 0) (j := 2) (q := 3) (by decide) (by decide)
  have hk := hk.r (k := 0) (j := 3) (q := 25) (by decide) (by decide)
  have hk := hk.up (n' := 42) (by decide)
  have hk := okh_41 hk
  have hk := hk.r (k := 0) (j := 4) (q := 41) (by decide) (by decide)
  have hk := hk.up (n' := 117) (by decide)
  have hk := okh_116 hk
  have hk := hk.r (k := 0) (j := 5) (q := 116) (by decide) (by decide)
  have hk := hk.up (n' := 125) (by decide)
  have hk := okh_124 hk
  have hk := hk.r (k := 0) (j := 6) (q := 124) (by decide) (by decide)
  exact hk
set_option maxRecDepth 100000 in
set_option maxHeartbeats 8000000 in
theorem kon_0 (hk : OKH 1 vi vl vr) : CON g mX8_init 3 131 8133 [.ref 0] (HN 1 vi vl vr) (pS none (HN 132 (viK_0 vi) (vlK_0 vl) (vrK_0 vr))) := by
  refine CON.of (by decide) (by decide) ?_
  show X g _ _ _ _ _ 0 [(0, .ref 0)] [] _
  refine X_aload_n 0 rfl (dk KX8_init_0 0 rfl) ?_
  refine Z_objInit (Nat.le_of_ble_eq_true rfl) (Nat.le_of_ble_eq_true rfl) (tin1 21 rfl rfl) (tin1 22 rfl rfl) (tin1 23 rfl rfl) (dk KX8_init_0 1 rfl) ?_
  refine Z_new (nc := 130) (ns := 8131) CL7 df7 rfl hk (by decide) rfl rfl (tin1 24 rfl rfl) (tin1 25 rfl rfl) (tin1 2 rfl rfl) (dk KX8_init_0 2 rfl) ?_
  show X g _ _ _ _ _ _ [(0, .ref 0)] [.ref 1] (HN 2 vi vl vr)
  have hk := hk.up (n' := 2) (by decide)
  refine X_dup (dk KX8_init_0 3 rfl) rfl ?_
  refine Z_callIN (nc := 129) (ns := 6131) (av := []) (st := [.ref 1]) (b := 1) (dc := 1) cbX7_init rfl rfl (nin1 26 rfl rfl) (tin1 27 rfl rfl) rfl (Nat.le_of_ble_eq_true rfl) (Nat.le_of_ble_eq_true rfl) (dk KX8_init_0 4 rfl) (kon_1 hk) (by decide) rfl rfl ?_
  show X g _ _ _ _ _ _ [(0, .ref 0)] [.ref 1] (HN 3 (viK_1 vi) (vlK_1 vl) (vrK_1 vr))
  have hk := okh_1 hk
  refine X_astore_n [(1, .ref 1), (0, .ref 0)] (dk KX8_init_0 5 rfl) (by decide) rfl ?_
  refine Z_new (nc := 128) (ns := 6115) CL2 df2 rfl hk (by decide) rfl rfl (tin1 40 rfl rfl) (tin1 41 rfl rfl) (tin1 3 rfl rfl) (dk KX8_init_0 6 rfl) ?_
  show X g _ _ _ _ _ _ [(1, .ref 1), (0, .ref 0)] [.ref 3] (HN 4 (viK_1 vi) (vlK_1 vl) (vrK_1 vr))
  have hk := hk.up (n' := 4) (by decide)
  refine X_dup (dk KX8_init_0 7 rfl) rfl ?_
  refine Z_callIN (nc := 107) (ns := 5949) (av := []) (st := [.ref 3]) (b := 3) (dc := 1) cbX2_init rfl rfl (nin1 42 rfl rfl) (tin1 43 rfl rfl) rfl (Nat.le_of_ble_eq_true rfl) (Nat.le_of_ble_eq_true rfl) (dk KX8_init_0 8 rfl) (kon_3 hk) (by decide) rfl rfl ?_
  show X g _ _ _ _ _ _ [(1, .ref 1), (0, .ref 0)] [.ref 3] (HN 25 (viK_3 (viK_1 vi)) (vlK_3 (vlK_1 vl)) (vrK_3 (vrK_1 vr)))
  have hk := okh_3 hk
  refine X_astore_n [(2, .ref 3), (1, .ref 1), (0, .ref 0)] (dk KX8_init_0 9 rfl) (by decide) rfl ?_
  refine Z_new (nc := 106) (ns := 5944) CL0 df0 rfl hk (by decide) rfl rfl (tin1 131 rfl rfl) (tin1 132 rfl rfl) (tin1 4 rfl rfl) (dk KX8_init_0 10 rfl) ?_
  show X g _ _ _ _ _ _ [(2, .ref 3), (1, .ref 1), (0, .ref 0)] [.ref 25] (HN 26 (viK_3 (viK_1 vi)) (vlK_3 (vlK_1 vl)) (vrK_3 (vrK_1 vr)))
  have hk := hk.up (n' := 26) (by decide)
  refine X_dup (dk KX8_init_0 11 rfl) rfl ?_
  refine Z_callIN (nc := 94) (ns := 4556) (av := []) (st := [.ref 25]) (b := 25) (dc := 1) cbX0_init rfl rfl (nin1 133 rfl rfl) (tin1 134 rfl rfl) rfl (Nat.le_of_ble_eq_true rfl) (Nat.le_of_ble_eq_true rfl) (dk KX8_init_0 12 rfl) (kon_25 hk) (by decide) rfl rfl ?_
  show X g _ _ _ _ _ _ [(2, .ref 3), (1, .ref 1), (0, .ref 0)] [.ref 25] (HN 38 (viK_25 (viK_3 (viK_1 vi))) (vlK_25 (vlK_3 (vlK_1 vl))) (vrK_25 (vrK_3 (vrK_1 vr))))
  have hk := okh_25 hk
  refine X_astore_n [(3, .ref 25), (2, .ref 3), (1, .ref 1), (0, .ref 0)] (dk KX8_init_0 13 rfl) (by decide) rfl ?_
  refine X_aload_n 3 rfl (dk KX8_init_0 14 rfl) ?_
  refine X_aload_n 2 rfl (dk KX8_init_0 15 rfl) ?_
  refine X_putRF (h := HN 38 (viK_25 (viK_3 (viK_1 vi))) (vlK_25 (vlK_3 (vlK_1 vl))) (vrK_25 (vrK_3 (vrK_1 vr)))) (k := 0) (j := 0) (q := 1) CL8 (Nat.le_of_ble_eq_true rfl) rfl (by decide) rfl (fun _ => ⟨rfl, rfl⟩) rfl rfl rfl (tin2 118 rfl rfl) (dk KX8_init_0 16 rfl) ?_
  show X g _ _ _ _ _ _ [(3, .ref 25), (2, .ref 3), (1, .ref 1), (0, .ref 0)] [] (HN 38 (viK_25 (viK_3 (viK_1 vi))) (vlK_25 (vlK_3 (vlK_1 vl))) (u2 (vrK_25 (vrK_3 (vrK_1 vr))) 0 0 (some 1)))
  have hk := hk.r (k := 0) (j := 0) (q := 1) (by decide) (by decide)
  refine X_aload_n 3 rfl (dk KX8_init_0 17 rfl) ?_
  refine Z_new (nc := 93) (ns := 4547) CL4 df4 rfl hk (by decide) rfl rfl (tin1 157 rfl rfl) (tin1 158 rfl rfl) (tin1 5 rfl rfl) (dk KX8_init_0 18 rfl) ?_
  show X g _ _ _ _ _ _ [(3, .ref 25), (2, .ref 3), (1, .ref 1), (0, .ref 0)] [.ref 38, .ref 0] (HN 39 (viK_25 (viK_3 (viK_1 vi))) (vlK_25 (vlK_3 (vlK_1 vl))) (u2 (vrK_25 (vrK_3 (vrK_1 vr))) 0 0 (some 1)))
  have hk := hk.up (n' := 39) (by decide)
  refine X_dup (dk KX8_init_0 19 rfl) rfl ?_
  refine X_aload_n 2 rfl (dk KX8_init_0 20 rfl) ?_
  refine Z_callI (nc := 91) (ns := 4510) (av := [.ref 1]) (st := [.ref 38, .ref 0]) (b := 38) (dc := 2) cbX4_init rfl rfl (tin1 159 rfl rfl) (tin1 160 rfl rfl) rfl (Nat.le_of_ble_eq_true rfl) (Nat.le_of_ble_eq_true rfl) (dk KX8_init_0 21 rfl) (kon_38 hk) (by decide) rfl rfl ?_
  show X g _ _ _ _ _ _ [(3, .ref 25), (2, .ref 3), (1, .ref 1), (0, .ref 0)] [.ref 38, .ref 0] (HN 41 (viK_38 (viK_25 (viK_3 (viK_1 vi)))) (vlK_38 (vlK_25 (vlK_3 (vlK_1 vl)))) (vrK_38 (u2 (vrK_25 (vrK_3 (vrK_1 vr))) 0 0 (some 1))))
  have hk := okh_38 hk
  refine X_putRF (h := HN 41 (viK_38 (viK_25 (viK_3 (viK_1 vi)))) (vlK_38 (vlK_25 (vlK_3 (vlK_1 vl)))) (vrK_38 (u2 (vrK_25 (vrK_3 (vrK_1 vr))) 0 0 (some 1)))) (k := 0) (j := 1) (q := 38) CL8 (Nat.le_of_ble_eq_true rfl) rfl (by decide) rfl (fun _ => ⟨rfl, rfl⟩) rfl rfl rfl (tin2 119 rfl rfl) (dk KX8_init_0 22 rfl) ?_
  show X g _ _ _ _ _ _ [(3, .ref 25), (2, .ref 3), (1, .ref 1), (0, .ref 0)] [] (HN 41 (viK_38 (viK_25 (viK_3 (viK_1 vi)))) (vlK_38 (vlK_25 (vlK_3 (vlK_1 vl)))) (u2 (vrK_38 (u2 (vrK_25 (vrK_3 (vrK_1 vr))) 0 0 (some 1))) 0 1 (some 38)))
  have hk := hk.r (k := 0) (j := 1) (q := 38) (by decide) (by decide)
  refine X_aload_n 3 rfl (dk KX8_init_0 23 rfl) ?_
  refine X_aload_n 1 rfl (dk KX8_init_0 24 rfl) ?_
  refine X_putRF (h := HN 41 (viK_38 (viK_25 (viK_3 (viK_1 vi)))) (vlK_38 (vlK_25 (vlK_3 (vlK_1 vl)))) (u2 (vrK_38 (u2 (vrK_25 (vrK_3 (vrK_1 vr))) 0 0 (some 1))) 0 1 (some 38))) (k := 0) (j := 2) (q := 3) CL8 (Nat.le_of_ble_eq_true rfl) rfl (by decide) rfl (fun _ => ⟨rfl, rfl⟩) rfl rfl rfl (tin2 120 rfl rfl) (dk KX8_init_0 25 rfl) ?_
  show X g _ _ _ _ _ _ [(3, .ref 25), (2, .ref 3), (1, .ref 1), (0, .ref 0)] [] (HN 41 (viK_38 (viK_25 (viK_3 (viK_1 vi)))) (vlK_38 (vlK_25 (vlK_3 (vlK_1 vl)))) (u2 (u2 (vrK_38 (u2 (vrK_25 (vrK_3 (vrK_1 vr))) 0 0 (some 1))) 0 1 (some 38)) 0 2 (some 3)))
  have hk := hk.r (k := 0) (j := 2) (q := 3) (by decide) (by decide)
  refine X_aload_n 3 rfl (dk KX8_init_0 26 rfl) ?_
  refine X_aload_n 0 rfl (dk KX8_init_0 27 rfl) ?_
  refine X_putRF (h := HN 41 (viK_38 (viK_25 (viK_3 (viK_1 vi)))) (vlK_38 (vlK_25 (vlK_3 (vlK_1 vl)))) (u2 (u2 (vrK_38 (u2 (vrK_25 (vrK_3 (vrK_1 vr))) 0 0 (some 1))) 0 1 (some 38)) 0 2 (some 3))) (k := 0) (j := 3) (q := 25) CL8 (Nat.le_of_ble_eq_true rfl) rfl (by decide) rfl (fun _ => ⟨rfl, rfl⟩) rfl rfl rfl (tin2 121 rfl rfl) (dk KX8_init_0 28 rfl) ?_
  show X g _ _ _ _ _ _ [(3, .ref 25), (2, .ref 3), (1, .ref 1), (0, .ref 0)] [] (HN 41 (viK_38 (viK_25 (viK_3 (viK_1 vi)))) (vlK_38 (vlK_25 (vlK_3 (vlK_1 vl)))) (u2 (u2 (u2 (vrK_38 (u2 (vrK_25 (vrK_3 (vrK_1 vr))) 0 0 (some 1))) 0 1 (some 38)) 0 2 (some 3)) 0 3 (some 25)))
  have hk := hk.r (k := 0) (j := 3) (q := 25) (by decide) (by decide)
  refine X_aload_n 3 rfl (dk KX8_init_0 29 rfl) ?_
  refine Z_new (nc := 90) (ns := 4496) CL1 df1 rfl hk (by decide) rfl rfl (tin1 217 rfl rfl) (tin1 218 rfl rfl) (tin1 7 rfl rfl) (dk KX8_init_0 30 rfl) ?_
  show X g _ _ _ _ _ _ [(3, .ref 25), (2, .ref 3), (1, .ref 1), (0, .ref 0)] [.ref 41, .ref 0] (HN 42 (viK_38 (viK_25 (viK_3 (viK_1 vi)))) (vlK_38 (vlK_25 (vlK_3 (vlK_1 vl)))) (u2 (u2 (u2 (vrK_38 (u2 (vrK_25 (vrK_3 (vrK_1 vr))) 0 0 (some 1))) 0 1 (some 38)) 0 2 (some 3)) 0 3 (some 25)))
  have hk := hk.up (n' := 42) (by decide)
  refine X_dup (dk KX8_init_0 31 rfl) rfl ?_
  refine X_aload_n 1 rfl (dk KX8_init_0 32 rfl) ?_
  refine X_aload_n 0 rfl (dk KX8_init_0 33 rfl) ?_
  refine Z_callI (nc := 16) (ns := 1082) (av := [.ref 3, .ref 25]) (st := [.ref 41, .ref 0]) (b := 41) (dc := 2) cbX1_init rfl rfl (tin1 219 rfl rfl) (tin1 220 rfl rfl) rfl (Nat.le_of_ble_eq_true rfl) (Nat.le_of_ble_eq_true rfl) (dk KX8_init_0 34 rfl) (kon_41 hk) (by decide) rfl rfl ?_
  show X g _ _ _ _ _ _ [(3, .ref 25), (2, .ref 3), (1, .ref 1), (0, .ref 0)] [.ref 41, .ref 0] (HN 116 (viK_41 (viK_38 (viK_25 (viK_3 (viK_1 vi))))) (vlK_41 (vlK_38 (vlK_25 (vlK_3 (vlK_1 vl))))) (vrK_41 (u2 (u2 (u2 (vrK_38 (u2 (vrK_25 (vrK_3 (vrK_1 vr))) 0 0 (some 1))) 0 1 (some 38)) 0 2 (some 3)) 0 3 (some 25))))
  have hk := okh_41 hk
  refine X_putRF (h := HN 116 (viK_41 (viK_38 (viK_25 (viK_3 (viK_1 vi))))) (vlK_41 (vlK_38 (vlK_25 (vlK_3 (vlK_1 vl))))) (vrK_41 (u2 (u2 (u2 (vrK_38 (u2 (vrK_25 (vrK_3 (vrK_1 vr))) 0 0 (some 1))) 0 1 (some 38)) 0 2 (some 3)) 0 3 (some 25)))) (k := 0) (j := 4) (q := 41) CL8 (Nat.le_of_ble_eq_true rfl) rfl (by decide) rfl (fun _ => ⟨rfl, rfl⟩) rfl rfl rfl (tin2 122 rfl rfl) (dk KX8_init_0 35 rfl) ?_
  show X g _ _ _ _ _ _ [(3, .ref 25), (2, .ref 3), (1, .ref 1), (0, .ref 0)] [] (HN 116 (viK_41 (viK_38 (viK_25 (viK_3 (viK_1 vi))))) (vlK_41 (vlK_38 (vlK_25 (vlK_3 (vlK_1 vl))))) (u2 (vrK_41 (u2 (u2 (u2 (vrK_38 (u2 (vrK_25 (vrK_3 (vrK_1 vr))) 0 0 (some 1))) 0 1 (some 38)) 0 2 (some 3)) 0 3 (some 25))) 0 4 (some 41)))
  have hk := hk.r (k := 0) (j := 4) (q := 41) (by decide) (by decide)
  refine X_aload_n 3 rfl (dk KX8_init_0 36 rfl) ?_
  refine Z_new (nc := 15) (ns := 1073) CL5 df5 rfl hk (by decide) rfl rfl (tin2 82 rfl rfl) (tin2 83 rfl rfl) (tin1 9 rfl rfl) (dk KX8_init_0 37 rfl) ?_
  show X g _ _ _ _ _ _ [(3, .ref 25), (2, .ref 3), (1, .ref 1), (0, .ref 0)] [.ref 116, .ref 0] (HN 117 (viK_41 (viK_38 (viK_25 (viK_3 (viK_1 vi))))) (vlK_41 (vlK_38 (vlK_25 (vlK_3 (vlK_1 vl))))) (u2 (vrK_41 (u2 (u2 (u2 (vrK_38 (u2 (vrK_25 (vrK_3 (vrK_1 vr))) 0 0 (some 1))) 0 1 (some 38)) 0 2 (some 3)) 0 3 (some 25))) 0 4 (some 41)))
  have hk := hk.up (n' := 117) (by decide)
  refine X_dup (dk KX8_init_0 38 rfl) rfl ?_
  refine Z_callIN (nc := 8) (ns := 541) (av := []) (st := [.ref 116, .ref 0]) (b := 116) (dc := 1) cbX5_init rfl rfl (nin2 84 rfl rfl) (tin2 85 rfl rfl) rfl (Nat.le_of_ble_eq_true rfl) (Nat.le_of_ble_eq_true rfl) (dk KX8_init_0 39 rfl) (kon_116 hk) (by decide) rfl rfl ?_
  show X g _ _ _ _ _ _ [(3, .ref 25), (2, .ref 3), (1, .ref 1), (0, .ref 0)] [.ref 116, .ref 0] (HN 124 (viK_116 (viK_41 (viK_38 (viK_25 (viK_3 (viK_1 vi)))))) (vlK_116 (vlK_41 (vlK_38 (vlK_25 (vlK_3 (vlK_1 vl)))))) (vrK_116 (u2 (vrK_41 (u2 (u2 (u2 (vrK_38 (u2 (vrK_25 (vrK_3 (vrK_1 vr))) 0 0 (some 1))) 0 1 (some 38)) 0 2 (some 3)) 0 3 (some 25))) 0 4 (some 41))))
  have hk := okh_116 hk
  refine X_putR (h := HN 124 (viK_116 (viK_41 (viK_38 (viK_25 (viK_3 (viK_1 vi)))))) (vlK_116 (vlK_41 (vlK_38 (vlK_25 (vlK_3 (vlK_1 vl)))))) (vrK_116 (u2 (vrK_41 (u2 (u2 (u2 (vrK_38 (u2 (vrK_25 (vrK_3 (vrK_1 vr))) 0 0 (some 1))) 0 1 (some 38)) 0 2 (some 3)) 0 3 (some 25))) 0 4 (some 41)))) (k := 0) (j := 5) (q := 116) CL8 (Nat.le_of_ble_eq_true rfl) rfl (by decide) rfl (fun _ => ⟨rfl, rfl⟩) rfl (tin2 123 rfl rfl) (dk KX8_init_0 40 rfl) ?_
  show X g _ _ _ _ _ _ [(3, .ref 25), (2, .ref 3), (1, .ref 1), (0, .ref 0)] [] (HN 124 (viK_116 (viK_41 (viK_38 (viK_25 (viK_3 (viK_1 vi)))))) (vlK_116 (vlK_41 (vlK_38 (vlK_25 (vlK_3 (vlK_1 vl)))))) (u2 (vrK_116 (u2 (vrK_41 (u2 (u2 (u2 (vrK_38 (u2 (vrK_25 (vrK_3 (vrK_1 vr))) 0 0 (some 1))) 0 1 (some 38)) 0 2 (some 3)) 0 3 (some 25))) 0 4 (some 41))) 0 5 (some 116)))
  have hk := hk.r (k := 0) (j := 5) (q := 116) (by decide) (by decide)
  refine X_aload_n 3 rfl (dk KX8_init_0 41 rfl) ?_
  refine Z_new (nc := 7) (ns := 532) CL5 df5 rfl hk (by decide) rfl rfl (tin2 82 rfl rfl) (tin2 83 rfl rfl) (tin1 9 rfl rfl) (dk KX8_init_0 42 rfl) ?_
  show X g _ _ _ _ _ _ [(3, .ref 25), (2, .ref 3), (1, .ref 1), (0, .ref 0)] [.ref 124, .ref 0] (HN 125 (viK_116 (viK_41 (viK_38 (viK_25 (viK_3 (viK_1 vi)))))) (vlK_116 (vlK_41 (vlK_38 (vlK_25 (vlK_3 (vlK_1 vl)))))) (u2 (vrK_116 (u2 (vrK_41 (u2 (u2 (u2 (vrK_38 (u2 (vrK_25 (vrK_3 (vrK_1 vr))) 0 0 (some 1))) 0 1 (some 38)) 0 2 (some 3)) 0 3 (some 25))) 0 4 (some 41))) 0 5 (some 116)))
  have hk := hk.up (n' := 125) (by decide)
  refine X_dup (dk KX8_init_0 43 rfl) rfl ?_
  refine Z_callIN (nc := 0) (ns := 0) (av := []) (st := [.ref 124, .ref 0]) (b := 124) (dc := 1) cbX5_init rfl rfl (nin2 84 rfl rfl) (tin2 85 rfl rfl) rfl (Nat.le_of_ble_eq_true rfl) (Nat.le_of_ble_eq_true rfl) (dk KX8_init_0 44 rfl) (kon_124 hk) (by decide) rfl rfl ?_
  show X g _ _ _ _ _ _ [(3, .ref 25), (2, .ref 3), (1, .ref 1), (0, .ref 0)] [.ref 124, .ref 0] (HN 132 (viK_124 (viK_116 (viK_41 (viK_38 (viK_25 (viK_3 (viK_1 vi))))))) (vlK_124 (vlK_116 (vlK_41 (vlK_38 (vlK_25 (vlK_3 (vlK_1 vl))))))) (vrK_124 (u2 (vrK_116 (u2 (vrK_41 (u2 (u2 (u2 (vrK_38 (u2 (vrK_25 (vrK_3 (vrK_1 vr))) 0 0 (some 1))) 0 1 (some 38)) 0 2 (some 3)) 0 3 (some 25))) 0 4 (some 41))) 0 5 (some 116))))
  have hk := okh_124 hk
  refine X_putR (h := HN 132 (viK_124 (viK_116 (viK_41 (viK_38 (viK_25 (viK_3 (viK_1 vi))))))) (vlK_124 (vlK_116 (vlK_41 (vlK_38 (vlK_25 (vlK_3 (vlK_1 vl))))))) (vrK_124 (u2 (vrK_116 (u2 (vrK_41 (u2 (u2 (u2 (vrK_38 (u2 (vrK_25 (vrK_3 (vrK_1 vr))) 0 0 (some 1))) 0 1 (some 38)) 0 2 (some 3)) 0 3 (some 25))) 0 4 (some 41))) 0 5 (some 116)))) (k := 0) (j := 6) (q := 124) CL8 (Nat.le_of_ble_eq_true rfl) rfl (by decide) rfl (fun _ => ⟨rfl, rfl⟩) rfl (tin2 124 rfl rfl) (dk KX8_init_0 45 rfl) ?_
  show X g _ _ _ _ _ _ [(3, .ref 25), (2, .ref 3), (1, .ref 1), (0, .ref 0)] [] (HN 132 (viK_124 (viK_116 (viK_41 (viK_38 (viK_25 (viK_3 (viK_1 vi))))))) (vlK_124 (vlK_116 (vlK_41 (vlK_38 (vlK_25 (vlK_3 (vlK_1 vl))))))) (u2 (vrK_124 (u2 (vrK_116 (u2 (vrK_41 (u2 (u2 (u2 (vrK_38 (u2 (vrK_25 (vrK_3 (vrK_1 vr))) 0 0 (some 1))) 0 1 (some 38)) 0 2 (some 3)) 0 3 (some 25))) 0 4 (some 41))) 0 5 (some 116))) 0 6 (some 124)))
  have hk := hk.r (k := 0) (j := 6) (q := 124) (by decide) (by decide)
  exact X_return (dk KX8_init_0 46 rfl) rfl ⟨rfl, rfl⟩
end K
