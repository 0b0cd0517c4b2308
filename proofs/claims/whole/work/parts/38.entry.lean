def z_i : Nat → Nat → Int32 := fun _ _ => 0
def z_l : Nat → Nat → Int64 := fun _ _ => 0
def z_r : Nat → Nat → Option Nat := fun _ _ => none
def vrF : Nat → Nat → Option Nat := vrK_132 (vrK_0 z_r)
def σ0 : PS := (viK_132 (viK_0 z_i), vlK_132 (vlK_0 z_l), 116, 124)
set_option maxRecDepth 100000 in
theorem vrF_c0 : ∀ k, k < 16 → ∀ j, j < 80 → vrF (0 + k) j = RFs 116 124 (0 + k) j := by decide +kernel
set_option maxRecDepth 100000 in
theorem vrF_c1 : ∀ k, k < 16 → ∀ j, j < 80 → vrF (16 + k) j = RFs 116 124 (16 + k) j := by decide +kernel
set_option maxRecDepth 100000 in
theorem vrF_c2 : ∀ k, k < 16 → ∀ j, j < 80 → vrF (32 + k) j = RFs 116 124 (32 + k) j := by decide +kernel
set_option maxRecDepth 100000 in
theorem vrF_c3 : ∀ k, k < 16 → ∀ j, j < 80 → vrF (48 + k) j = RFs 116 124 (48 + k) j := by decide +kernel
set_option maxRecDepth 100000 in
theorem vrF_c4 : ∀ k, k < 16 → ∀ j, j < 80 → vrF (64 + k) j = RFs 116 124 (64 + k) j := by decide +kernel
set_option maxRecDepth 100000 in
theorem vrF_c5 : ∀ k, k < 16 → ∀ j, j < 80 → vrF (80 + k) j = RFs 116 124 (80 + k) j := by decide +kernel
set_option maxRecDepth 100000 in
theorem vrF_c6 : ∀ k, k < 16 → ∀ j, j < 80 → vrF (96 + k) j = RFs 116 124 (96 + k) j := by decide +kernel
set_option maxRecDepth 100000 in
theorem vrF_c7 : ∀ k, k < 16 → ∀ j, j < 80 → vrF (112 + k) j = RFs 116 124 (112 + k) j := by decide +kernel
set_option maxRecDepth 100000 in
theorem vrF_c8 : ∀ k, k < 16 → ∀ j, j < 80 → vrF (128 + k) j = RFs 116 124 (128 + k) j := by decide +kernel
set_option maxRecDepth 100000 in
theorem vrF_c9 : ∀ k, k < 16 → ∀ j, j < 80 → vrF (144 + k) j = RFs 116 124 (144 + k) j := by decide +kernel
set_option maxRecDepth 100000 in
theorem vrF_c10 : ∀ k, k < 16 → ∀ j, j < 80 → vrF (160 + k) j = RFs 116 124 (160 + k) j := by decide +kernel
set_option maxRecDepth 100000 in
theorem vrF_c11 : ∀ k, k < 16 → ∀ j, j < 80 → vrF (176 + k) j = RFs 116 124 (176 + k) j := by decide +kernel
set_option maxRecDepth 100000 in
theorem vrF_c12 : ∀ k, k < 1 → ∀ j, j < 80 → vrF (192 + k) j = RFs 116 124 (192 + k) j := by decide +kernel
theorem vrF_lo : ∀ k, k < 193 → ∀ j, j < 80 → vrF k j = RFs 116 124 k j := by
  intro k hk j hj
  by_cases h0 : k < 16
  · have := vrF_c0 (k - 0) (by omega) j hj
    rw [show 0 + (k - 0) = k by omega] at this
    exact this
  by_cases h1 : k < 32
  · have := vrF_c1 (k - 16) (by omega) j hj
    rw [show 16 + (k - 16) = k by omega] at this
    exact this
  by_cases h2 : k < 48
  · have := vrF_c2 (k - 32) (by omega) j hj
    rw [show 32 + (k - 32) = k by omega] at this
    exact this
  by_cases h3 : k < 64
  · have := vrF_c3 (k - 48) (by omega) j hj
    rw [show 48 + (k - 48) = k by omega] at this
    exact this
  by_cases h4 : k < 80
  · have := vrF_c4 (k - 64) (by omega) j hj
    rw [show 64 + (k - 64) = k by omega] at this
    exact this
  by_cases h5 : k < 96
  · have := vrF_c5 (k - 80) (by omega) j hj
    rw [show 80 + (k - 80) = k by omega] at this
    exact this
  by_cases h6 : k < 112
  · have := vrF_c6 (k - 96) (by omega) j hj
    rw [show 96 + (k - 96) = k by omega] at this
    exact this
  by_cases h7 : k < 128
  · have := vrF_c7 (k - 112) (by omega) j hj
    rw [show 112 + (k - 112) = k by omega] at this
    exact this
  by_cases h8 : k < 144
  · have := vrF_c8 (k - 128) (by omega) j hj
    rw [show 128 + (k - 128) = k by omega] at this
    exact this
  by_cases h9 : k < 160
  · have := vrF_c9 (k - 144) (by omega) j hj
    rw [show 144 + (k - 144) = k by omega] at this
    exact this
  by_cases h10 : k < 176
  · have := vrF_c10 (k - 160) (by omega) j hj
    rw [show 160 + (k - 160) = k by omega] at this
    exact this
  by_cases h11 : k < 192
  · have := vrF_c11 (k - 176) (by omega) j hj
    rw [show 176 + (k - 176) = k by omega] at this
    exact this
  have := vrF_c12 (k - 192) (by omega) j hj
  rw [show 192 + (k - 192) = k by omega] at this
  exact this
theorem rf_hi : ∀ l ∈ RF0, l.length ≤ 80 := by decide +kernel
theorem vrF_eq (k : Nat) (hk : k < 193) (j : Nat) : vrF k j = RFs 116 124 k j := by
  by_cases hj : j < 80
  · exact vrF_lo k hk j hj
  · have h1 : vrF k j = none := sm_132 (sm_0 (fun _ _ _ => rfl)) k j (by omega)
    have h2 : (RF0.getD k []).getD j none = none := by
      cases hq : RF0[k]? with
      | none => simp [hq]
      | some l =>
        have hl := rf_hi l (List.mem_of_getElem? hq)
        simp only [List.getD_eq_getElem?_getD, hq, Option.getD_some]
        rw [List.getElem?_eq_none (by omega)]
        rfl
    rw [h1]
    unfold RFs
    split
    · rw [if_neg (by omega), if_neg (by omega), h2]
    · rw [h2]
section LS
variable {g : GP} {M : Mth} {d nc ns : Nat} {post : Option Value → PH → Prop} {pc : Nat} {L : List (Nat × Value)} {st : List Value}
theorem X_heq {h h' : PH} (h1 : h'.1.1 = h.1.1) (hce : ∀ (dA : Nat → ClassId) (ad : Nat → Nat) (k : Nat), k < h.1.1 → cE dA ad h k = cE dA ad h' k) (kk : X g M d nc ns post pc L st h') : X g M d nc ns post pc L st h := by
  intro p e R s m args below meth c D dA A Q ad H locs cells slots ls hM hW hc hs hl ret
  have ew : wl dA ad h = wl dA ad h' := by
    unfold wl
    rw [h1]
    apply List.map_congr_left
    intro k hk
    rw [hce dA ad k (List.mem_range.mp hk)]
  refine kk p e R s m args below meth c D dA A Q ad H locs cells slots ls hM ⟨by rw [← ew]; exact hW.1, by rw [← ew]; exact hW.2.1, hW.2.2⟩ hc hs hl ?_
  intro v h2 ad2 H' locs' cells' slots' ls' pc' ri z1 z2 z3 z4 z5 z6 z7
  exact ret v h2 ad2 H' locs' cells' slots' ls' pc' ri z1 z2 z3 (by rw [← h1]; exact z4) z5 z6 z7
theorem hn_hp (dA : Nat → ClassId) (ad : Nat → Nat) (k : Nat) (hk : k < 193) : cE dA ad (HN 193 (viK_132 (viK_0 z_i)) (vlK_132 (vlK_0 z_l)) vrF) k = cE dA ad (HP σ0) k := by
  unfold cE fvE HN HP σ0
  simp only [vrF_eq k hk]
set_option maxRecDepth 100000 in
set_option maxHeartbeats 4000000 in
theorem law_X {P : Int32 × PS → Prop} (h : hO (fL_law_18 g FU 0 σ0) P) : X g mL_law 20 193 23537 (pI P) 0 [(0, .ref (SB + 2))] [] (HN 0 z_i z_l z_r) := by
  have hk : OKH 0 z_i z_l z_r := ⟨fun _ _ _ => ⟨rfl, rfl, rfl⟩, fun k j q hq => by cases hq⟩
  refine Z_new (nc := 192) (ns := 23530) CL8 df8 rfl hk (by decide) rfl rfl (tin1 16 rfl rfl) (tin1 17 rfl rfl) (tin1 1 rfl rfl) (dk KL_law_0 0 rfl) ?_
  show X g _ _ _ _ _ _ [(0, .ref (SB + 2))] [.ref 0] (HN 1 z_i z_l z_r)
  have hk := hk.up (n' := 1) (by decide)
  refine X_dup (dk KL_law_0 1 rfl) rfl ?_
  refine Z_callI (nc := 61) (ns := 15397) (av := []) (st := [.ref 0]) (b := 0) (dc := 3) cbX8_init rfl rfl (tin1 18 rfl rfl) (tin1 19 rfl rfl) rfl (Nat.le_of_ble_eq_true rfl) (Nat.le_of_ble_eq_true rfl) (dk KL_law_0 2 rfl) (kon_0 hk) (by decide) rfl rfl ?_
  show X g _ _ _ _ _ _ [(0, .ref (SB + 2))] [.ref 0] (HN 132 (viK_0 z_i) (vlK_0 z_l) (vrK_0 z_r))
  have hk := okh_0 hk
  refine X_astore_n [(1, .ref 0), (0, .ref (SB + 2))] (dk KL_law_0 3 rfl) (by decide) rfl ?_
  refine Z_new (nc := 60) (ns := 15317) CL9 df9 rfl hk (by decide) rfl rfl (tin4 86 rfl rfl) (tin4 87 rfl rfl) (tin1 10 rfl rfl) (dk KL_law_0 4 rfl) ?_
  show X g _ _ _ _ _ _ [(1, .ref 0), (0, .ref (SB + 2))] [.ref 132] (HN 133 (viK_0 z_i) (vlK_0 z_l) (vrK_0 z_r))
  have hk := hk.up (n' := 133) (by decide)
  refine X_dup (dk KL_law_0 5 rfl) rfl ?_
  refine Z_callI (nc := 0) (ns := 0) (av := []) (st := [.ref 132]) (b := 132) (dc := 3) cbX9_init rfl rfl (tin4 88 rfl rfl) (tin4 89 rfl rfl) rfl (Nat.le_of_ble_eq_true rfl) (Nat.le_of_ble_eq_true rfl) (dk KL_law_0 6 rfl) (kon_132 hk) (by decide) rfl rfl ?_
  show X g _ _ _ _ _ _ [(1, .ref 0), (0, .ref (SB + 2))] [.ref 132] (HN 193 (viK_132 (viK_0 z_i)) (vlK_132 (vlK_0 z_l)) vrF)
  refine X_astore_n [(2, .ref 132), (1, .ref 0), (0, .ref (SB + 2))] (dk KL_law_0 7 rfl) (by decide) rfl ?_
  refine X_iconst (dk KL_law_0 8 rfl) 0 (by decide) ?_
  refine X_istore_n [(3, .int 0), (2, .ref 132), (1, .ref 0), (0, .ref (SB + 2))] (dk KL_law_0 9 rfl) (by decide) rfl ?_
  refine X_heq (h' := HP σ0) rfl (fun dA ad k hkn => hn_hp dA ad k hkn) ?_
  refine X_sub [(0, .ref (SB + 2)), (1, .ref 0), (2, .ref 132), (3, .int 0)] [3, 2, 1, 0] rfl ?_
  exact tL_law_18 FU 0 σ0 h
end LS
