/-! the law's loop, with the codes' halves kept -/
theorem OPS.three {F G : PS → Option (Int32 × PS)} {S T : List (Nat × Nat)} (h : OPS F G) (fF : ∀ σ q, F σ = some q → FRM S σ q.2) (fG : ∀ σ q, G σ = some q → FRM T σ q.2) (hS : inS S 139 = false) (hT : inS T 139 = false) (hS2 : (List.range 15).all (fun i => !(inS S (140 + i))) = true) (hT2 : (List.range 15).all (fun i => !(inS T (140 + i))) = true) : OPS3 F G := by
  rintro σ ⟨h1, h2, h5⟩
  obtain ⟨q, e1, r, e2, h3, h4⟩ := h σ h1
  have cell : ∀ k, 140 ≤ k → k ≤ 154 → ∀ j, gi r.2 k j = gi σ k j := by
    intro k k1 k2 j
    have a1 : inS S k = false := by
      have := List.all_eq_true.mp hS2 (k - 140) (List.mem_range.mpr (by omega))
      rw [show 140 + (k - 140) = k by omega] at this
      simpa using this
    have a2 : inS T k = false := by
      have := List.all_eq_true.mp hT2 (k - 140) (List.mem_range.mpr (by omega))
      rw [show 140 + (k - 140) = k by omega] at this
      simpa using this
    rw [(fG _ _ e2).1 k a2, (fF _ _ e1).1 k a1]
  refine ⟨q, e1, r, e2, h3, h4, fun j => by rw [(fG _ _ e2).2.1 139 hT, (fF _ _ e1).2.1 139 hS]; exact h2 j, fun s hs => ?_⟩
  obtain ⟨n, g, hc⟩ := h5 s hs
  exact ⟨n, g, CRn_fr hc (cell _ (by decide) (by decide) _) (cell _ (by decide) (by decide) _) (fun k i k1 k2 _ => cell _ (by omega) (by omega) _) (fun k i k1 k2 _ => cell _ (by omega) (by omega) _)⟩
theorem law_step3 {g : GP} {F G : PS → Option (Int32 × PS)} {r18 : Int32 → PS → Option (Int32 × PS)} {x3 : Int32} {P : Int32 × PS → Prop} {σ : PS} (h : OPS3 F G) (hI : Inv3 σ) (k : ∀ τ, Inv3 τ → hO (r18 (x3 + 7) τ) P) : hO ((F σ).bind (fun q => (G q.2).bind (fun r => if q.1 = r.1 then fL_law_926 g r18 x3 r.2 else some (0, r.2)))) P := by
  obtain ⟨q, e1, r, e2, h3, h4⟩ := h σ hI
  rw [e1, Option.bind_some, e2, Option.bind_some, if_pos h3]
  exact k r.2 h4
theorem o3_feed (x1 x2 x3 x4 x5 : Int32) : OPS3 (fX8_feed x1 x2 x3 x4 x5) (fX9_feed x1 x2 x3 x4 x5) := (op_feed x1 x2 x3 x4 x5).three (fun σ q e => frX8_feed _ _ _ _ _ _ _ e) (fun σ q e => frX9_feed _ _ _ _ _ _ _ e) (by decide) (by decide) (by decide) (by decide)
theorem o3_back (x1 : Int32) : OPS3 (fX8_back x1) (fX9_back x1) := (op_back x1).three (fun σ q e => frX8_back _ _ _ e) (fun σ q e => frX9_back _ _ _ e) (by decide) (by decide) (by decide) (by decide)
theorem o3_place : OPS3 (fX8_place) (fX9_place) := (op_place).three (fun σ q e => frX8_place _ _ e) (fun σ q e => frX9_place _ _ e) (by decide) (by decide) (by decide) (by decide)
theorem o3_inn (x1 x2 x3 : Int32) : OPS3 (fX8_inn x1 x2 x3) (fX9_inn x1 x2 x3) := (op_inn x1 x2 x3).three (fun σ q e => frX8_inn _ _ _ _ _ e) (fun σ q e => frX9_inn _ _ _ _ _ e) (by decide) (by decide) (by decide) (by decide)
theorem o3_room (x1 x2 : Int32) : OPS3 (fX8_room x1 x2) (fX9_room x1 x2) := (op_room x1 x2).three (fun σ q e => frX8_room _ _ _ _ e) (fun σ q e => frX9_room _ _ _ _ e) (by decide) (by decide) (by decide) (by decide)
theorem o3_caravan (x1 x2 x3 x4 x5 x6 : Int32) : OPS3 (fX8_caravan x1 x2 x3 x4 x5 x6) (fX9_caravan x1 x2 x3 x4 x5 x6) := (op_caravan x1 x2 x3 x4 x5 x6).three (fun σ q e => frX8_caravan _ _ _ _ _ _ _ _ e) (fun σ q e => frX9_caravan _ _ _ _ _ _ _ _ e) (by decide) (by decide) (by decide) (by decide)
theorem o3_bale (x1 : Int32) : OPS3 (fX8_bale x1) (fX9_bale x1) := (op_bale x1).three (fun σ q e => frX8_bale _ _ _ e) (fun σ q e => frX9_bale _ _ _ e) (by decide) (by decide) (by decide) (by decide)
theorem o3_shut (x1 x2 : Int32) : OPS3 (fX8_shut x1 x2) (fX9_shut x1 x2) := (op_shut x1 x2).three (fun σ q e => frX8_shut _ _ _ _ e) (fun σ q e => frX9_shut _ _ _ _ e) (by decide) (by decide) (by decide) (by decide)
theorem o3_look (x1 x2 x3 : Int32) (h : x3 = 0 ∨ x3 = 1) : OPS3 (fX8_look x1 x2 x3) (fX9_look x1 x2 x3) := (op_look x1 x2 x3 h).three (fun σ q e => frX8_look _ _ _ _ _ e) (fun σ q e => frX9_look _ _ _ _ _ e) (by decide) (by decide) (by decide) (by decide)
theorem o3_state (x1 x2 x3 x4 : Int32) : OPS3 (fX8_state x1 x2 x3 x4) (fX9_state x1 x2 x3 x4) := (op_state x1 x2 x3 x4).three (fun σ q e => frX8_state _ _ _ _ _ _ e) (fun σ q e => frX9_state _ _ _ _ _ _ e) (by decide) (by decide) (by decide) (by decide)
theorem o3_house (x1 x2 x3 x4 : Int32) : OPS3 (fX8_house x1 x2 x3 x4) (fX9_house x1 x2 x3 x4) := (op_house x1 x2 x3 x4).three (fun σ q e => frX8_house _ _ _ _ _ _ e) (fun σ q e => frX9_house _ _ _ _ _ _ e) (by decide) (by decide) (by decide) (by decide)
theorem o3_full (x1 x2 x3 x4 : Int32) : OPS3 (fX8_full x1 x2 x3 x4) (fX9_full x1 x2 x3 x4) := (op_full x1 x2 x3 x4).three (fun σ q e => frX8_full _ _ _ _ _ _ e) (fun σ q e => frX9_full _ _ _ _ _ _ e) (by decide) (by decide) (by decide) (by decide)
theorem o3_comes (x1 x2 : Int32) : OPS3 (fX8_comes x1 x2) (fX9_comes x1 x2) := (op_comes x1 x2).three (fun σ q e => frX8_comes _ _ _ _ e) (fun σ q e => frX9_comes _ _ _ _ e) (by decide) (by decide) (by decide) (by decide)
theorem o3_barred (x1 x2 x3 : Int32) : OPS3 (fX8_barred x1 x2 x3) (fX9_barred x1 x2 x3) := (op_barred x1 x2 x3).three (fun σ q e => frX8_barred _ _ _ _ _ e) (fun σ q e => frX9_barred _ _ _ _ _ e) (by decide) (by decide) (by decide) (by decide)
theorem o3_could (x1 x2 : Int32) : OPS3 (fX8_could x1 x2) (fX9_could x1 x2) := (op_could x1 x2).three (fun σ q e => frX8_could _ _ _ _ e) (fun σ q e => frX9_could _ _ _ _ e) (by decide) (by decide) (by decide) (by decide)
theorem o3_sealed (x1 x2 x3 : Int32) : OPS3 (fX8_sealed x1 x2 x3) (fX9_sealed x1 x2 x3) := (op_sealed x1 x2 x3).three (fun σ q e => frX8_sealed _ _ _ _ _ e) (fun σ q e => frX9_sealed _ _ _ _ _ e) (by decide) (by decide) (by decide) (by decide)
theorem o3_tolls (x1 x2 x3 : Int32) : OPS3 (fX8_tolls x1 x2 x3) (fX9_tolls x1 x2 x3) := (op_tolls x1 x2 x3).three (fun σ q e => frX8_tolls _ _ _ _ _ e) (fun σ q e => frX9_tolls _ _ _ _ _ e) (by decide) (by decide) (by decide) (by decide)
theorem o3_crowded (x1 x2 x3 : Int32) : OPS3 (fX8_crowded x1 x2 x3) (fX9_crowded x1 x2 x3) := (op_crowded x1 x2 x3).three (fun σ q e => frX8_crowded _ _ _ _ _ e) (fun σ q e => frX9_crowded _ _ _ _ _ e) (by decide) (by decide) (by decide) (by decide)
theorem o3_count (x1 : Int32) : OPS3 (fX8_count x1) (fX9_count x1) := (op_count x1).three (fun σ q e => frX8_count _ _ _ e) (fun σ q e => frX9_count _ _ _ e) (by decide) (by decide) (by decide) (by decide)
theorem law_ok3 (hread : OPS3 fX8_read fX9_read) {g : GP} (hL : g.2.1 ≤ 3584) : ∀ (q m p : Nat) (σ : PS), p + 7 * q > g.2.1 → p ≤ 5000 → Inv3 σ → hO (fL_law_18 g (m + q + 1) (nI p) σ) (fun r => r.1 = 1) := by
  intro q
  induction q with
  | zero =>
    intro m p σ hq hp hI
    rw [fL_law_18, if_pos ((law_cond hL (by omega)).mpr (by omega))]
    exact ⟨_, rfl, rfl⟩
  | succ q ih =>
    intro m p σ hq hp hI
    rw [show m + (q + 1) + 1 = (m + q + 1) + 1 by omega, fL_law_18]
    by_cases hc : g.2.1 < p + 7
    · rw [if_pos ((law_cond hL (by omega)).mpr hc)]
      exact ⟨_, rfl, rfl⟩
    rw [if_neg (fun z => hc ((law_cond hL (by omega)).mp z)), gd_t (inb_nI (by omega) (by omega))]
    have go : ∀ τ, Inv3 τ → hO (fL_law_18 g (m + q + 1) (nI p + 7) τ) (fun r => r.1 = 1) := by
      intro τ hτ
      rw [ad7]
      exact ih m (p + 7) τ (by omega) (by omega) hτ
    have b1 : inb (nI p + 1) g.2.1 = true := by rw [ad1]; exact inb_nI (by omega) (by omega)
    have b2 : inb (nI p + 2) g.2.1 = true := by rw [ad2]; exact inb_nI (by omega) (by omega)
    have b3 : inb (nI p + 3) g.2.1 = true := by rw [ad3]; exact inb_nI (by omega) (by omega)
    have b4 : inb (nI p + 4) g.2.1 = true := by rw [ad4]; exact inb_nI (by omega) (by omega)
    have b5 : inb (nI p + 5) g.2.1 = true := by rw [ad5]; exact inb_nI (by omega) (by omega)
    have b6 : inb (nI p + 6) g.2.1 = true := by rw [ad6]; exact inb_nI (by omega) (by omega)
    generalize (g.2.2 (nI p).toNatClampNeg) &&& 31 = w
    by_cases c0 : w = 0
    · rw [if_pos c0]
      simp only [gd_t b1, gd_t b2, gd_t b3, gd_t b4, gd_t b5]
      exact law_step3 (o3_feed _ _ _ _ _) hI go
    rw [if_neg c0]
    by_cases c1 : w = 1
    · rw [if_pos c1]
      simp only [gd_t b1]
      exact law_step3 (o3_back _) hI go
    rw [if_neg c1]
    by_cases c2 : w = 2
    · rw [if_pos c2]
      exact law_step3 (hread) hI go
    rw [if_neg c2]
    by_cases c3 : w = 3
    · rw [if_pos c3]
      exact law_step3 (o3_place) hI go
    rw [if_neg c3]
    by_cases c4 : w = 4
    · rw [if_pos c4]
      simp only [gd_t b1, gd_t b2, gd_t b3]
      exact law_step3 (o3_inn _ _ _) hI go
    rw [if_neg c4]
    by_cases c5 : w = 5
    · rw [if_pos c5]
      simp only [gd_t b1, gd_t b2]
      exact law_step3 (o3_room _ _) hI go
    rw [if_neg c5]
    by_cases c6 : w = 6
    · rw [if_pos c6]
      simp only [gd_t b1, gd_t b2, gd_t b3, gd_t b4, gd_t b5, gd_t b6]
      exact law_step3 (o3_caravan _ _ _ _ _ _) hI go
    rw [if_neg c6]
    by_cases c7 : w = 7
    · rw [if_pos c7]
      simp only [gd_t b1]
      exact law_step3 (o3_bale _) hI go
    rw [if_neg c7]
    by_cases c8 : w = 8
    · rw [if_pos c8]
      simp only [gd_t b1, gd_t b2]
      exact law_step3 (o3_shut _ _) hI go
    rw [if_neg c8]
    by_cases c9 : w = 9
    · rw [if_pos c9, gd_t b1, gd_t b2, gd_t b3]
      unfold fL_law_471 fL_law_498
      simp only [gd_t b1, gd_t b2, gd_t b3]
      by_cases z : g.2.2 (nI p + 3).toNatClampNeg = 0
      · rw [if_pos z]
        simp only [if_pos z]
        exact law_step3 (o3_look _ _ 0 (Or.inl rfl)) hI go
      · rw [if_neg z]
        simp only [if_neg z]
        exact law_step3 (o3_look _ _ 1 (Or.inr rfl)) hI go
    rw [if_neg c9]
    by_cases c10 : w = 10
    · rw [if_pos c10]
      simp only [gd_t b1, gd_t b2, gd_t b3, gd_t b4]
      exact law_step3 (o3_state _ _ _ _) hI go
    rw [if_neg c10]
    by_cases c11 : w = 11
    · rw [if_pos c11]
      simp only [gd_t b1, gd_t b2, gd_t b3, gd_t b4]
      exact law_step3 (o3_house _ _ _ _) hI go
    rw [if_neg c11]
    by_cases c12 : w = 12
    · rw [if_pos c12]
      simp only [gd_t b1, gd_t b2, gd_t b3, gd_t b4]
      exact law_step3 (o3_full _ _ _ _) hI go
    rw [if_neg c12]
    by_cases c13 : w = 13
    · rw [if_pos c13]
      simp only [gd_t b1, gd_t b2]
      exact law_step3 (o3_comes _ _) hI go
    rw [if_neg c13]
    by_cases c14 : w = 14
    · rw [if_pos c14]
      simp only [gd_t b1, gd_t b2, gd_t b3]
      exact law_step3 (o3_barred _ _ _) hI go
    rw [if_neg c14]
    by_cases c15 : w = 15
    · rw [if_pos c15]
      simp only [gd_t b1, gd_t b2]
      exact law_step3 (o3_could _ _) hI go
    rw [if_neg c15]
    by_cases c16 : w = 16
    · rw [if_pos c16]
      simp only [gd_t b1, gd_t b2, gd_t b3]
      exact law_step3 (o3_sealed _ _ _) hI go
    rw [if_neg c16]
    by_cases c17 : w = 17
    · rw [if_pos c17]
      simp only [gd_t b1, gd_t b2, gd_t b3]
      exact law_step3 (o3_tolls _ _ _) hI go
    rw [if_neg c17]
    by_cases c18 : w = 18
    · rw [if_pos c18]
      simp only [gd_t b1, gd_t b2, gd_t b3]
      exact law_step3 (o3_crowded _ _ _) hI go
    rw [if_neg c18]
    by_cases c19 : w = 19
    · rw [if_pos c19]
      simp only [gd_t b1]
      exact law_step3 (o3_count _) hI go
    rw [if_neg c19]
    exact go σ hI
theorem crb_0 : CRB σ0 := by
  intro s hs
  have z : ∀ k j, k ≠ 38 → k ≠ 41 → k ≠ 132 → gi σ0 k j = 0 := fun k j a b c => s0_z (fun q => absurd q a) (fun q => absurd q b) (fun q => absurd q c)
  exact ⟨0, 0, ⟨by omega, by omega, z _ _ (by decide) (by decide) (by decide), z _ _ (by decide) (by decide) (by decide)⟩, fun k hk => by omega, fun f hf => by omega⟩
/-- the pure claim, if read is as the reference's -/
theorem pure3 : ∀ (g : GP), g.2.1 ≤ 3584 → hO (fL_law_18 g FU 0 σ0) (fun q => q.1 = 1) := by
  intro g hL
  obtain ⟨m, hm⟩ := FU_k 514 (by decide)
  rw [hm]
  exact law_ok3 op_read hL 513 m 0 σ0 (by omega) (by omega) ⟨inv_0, fun _ => rfl, crb_0⟩
