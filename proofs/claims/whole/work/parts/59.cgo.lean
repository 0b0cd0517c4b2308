/-! the class's way of a caravan on a morning -/
def LE (e : TB) (na nc : Nat) : Prop := na ≤ 8 ∧ nc ≤ 6 ∧ e 3 0 = nI na ∧ e 3 6 = nI nc ∧ (∀ i, i < na → isN (e 4 i) 0 4 ∧ isN (e 5 i) 0 60 ∧ isN (e 6 i) 0 60 ∧ isN (e 7 i) 0 3 ∧ ∀ r, r < (e 7 i).toNatClampNeg → isN (e (9 + i) r) 1 20) ∧ (∀ c, c < nc → isN (e 17 c) 0 3 ∧ isN (e 18 c) 1 30 ∧ isN (e 19 c) 1 9 ∧ (∃ f t, e 20 c = nI f ∧ e 21 c = nI t ∧ f < na ∧ t < na ∧ f ≠ t) ∧ isN (e 22 c) 0 59)
/-- the class's land, rules and shut roads while it walks -/
def CE (e : TB) (l : List RU) (b : Nat) (sh : Nat → Nat → Bool) (n : Nat) (σ : PS) : Prop := (∀ k, 3 ≤ k → k ≤ 24 → ∀ j, gi σ k j = e k j) ∧ BKC σ b l ∧ ∀ i, i < 8 → ∀ d, d < 60 → ((1 ≤ gi σ (30 + i) d ∧ gi σ (30 + i) d ≤ nI n) ↔ sh i d = true)
theorem CE_fr {e : TB} {l : List RU} {b : Nat} (hb : isBk b = true) {sh : Nat → Nat → Bool} {n : Nat} {σ τ : PS} (h : CE e l b sh n σ) (f1 : ∀ k, 3 ≤ k → k ≤ 37 → ∀ j, gi τ k j = gi σ k j) (f2 : ∀ k, 116 ≤ k → k ≤ 130 → k ≠ 123 → ∀ j, gi τ k j = gi σ k j) : CE e l b sh n τ := by
  refine ⟨fun k h1 h2 j => by rw [f1 k h1 (by omega)]; exact h.1 k h1 h2 j, BKC_fr (fun i hi j => f2 _ ?_ ?_ ?_ j) h.2.1, fun i hi d hd => by rw [f1 (30 + i) (by omega) (by omega)]; exact h.2.2 i hi d hd⟩ <;> rcases bk_or hb with rfl | rfl <;> omega
def CR (σ : PS) (c d : Nat) (D : TB) : Prop := gi σ (44 + c) d = D 0 c ∧ gi σ (51 + c) d = D 1 c ∧ gi σ (58 + c) d = D 2 c ∧ gi σ (65 + c) d = D 3 c ∧ gi σ (72 + c) d = D 4 c ∧ gi σ (79 + c) d = D 5 c ∧ gi σ (86 + c) d = D 6 c
def LR (σ : PS) (d : Nat) (D : TB) : Prop := ∀ l, l < 5 → gi σ (102 + l) d = D 8 l
theorem imin_nI {a b : Nat} (ha : a < 2 ^ 31) (hb : b < 2 ^ 31) : imin (nI a) (nI b) = nI (min a b) := by
  unfold imin
  by_cases h : b < a
  · rw [if_pos (nI_lt h ha), Nat.min_eq_right (by omega)]
  · rw [if_neg (nI_nlt (by omega) hb), Nat.min_eq_left (by omega)]
theorem isShut_eq {i d : Nat} (hi : i < 8) (hd : d < 60) (n : Int32) (σ : PS) : fX0_isShut (nI i) (nI d) n σ = some (tv (1 ≤ gi σ (30 + i) d ∧ gi σ (30 + i) d ≤ n), σ) := by
  unfold fX0_isShut
  rw [gd_t (inb_nI hi (by decide)), gd_t (inb_nI hd (by decide)), r29 (by omega), nI_clamp (by omega), isWithin_eq]
  exact gd_t is01_tv
theorem nx_of {e : TB} {c h t na : Nat} (he : e 21 c = nI t) (hh : h < na) (ht : t < na) (hne : h ≠ t) (hna : na ≤ 8) : ∃ x, x < na ∧ nxS e c (nI h) = nI x ∧ x ≠ h := by
  unfold nxS
  rw [he]
  by_cases hc : t ≤ h
  · rw [if_pos (nI_le hc (by omega)), nI_s1 (by omega)]
    exact ⟨h - 1, by omega, rfl, by omega⟩
  · rw [if_neg (nI_ge (by omega) (by omega)), nI_1]
    exact ⟨h + 1, by omega, rfl, by omega⟩
theorem goOn_red {b c d h t n na : Nat} {e : TB} {σ : PS} (hc : c < 6) (hd : d < 60) (h44 : gi σ (44 + c) d = nI h) (h21 : gi σ 21 c = e 21 c) : fX1_goOn b (nI c) (nI d) (nI n) σ = fX1_goOn_35 b (nI c) (nI d) (nI n) (nI h) (nxS e c (nI h)) σ := by
  unfold fX1_goOn nxS
  rw [gd_t (inb_nI hc (by decide)), gd_t (inb_nI hd (by decide)), gd_t (inb_nI hc (by decide)), r43 (by omega), nI_clamp (by omega), nI_clamp (by omega), h44, h21]
  split <;> rfl
def goF (c d : Nat) (σ τ : PS) : Prop := ∀ k j, k ≠ 42 → k ≠ 123 → k ≠ 131 → (j = d → k ≠ 44 + c ∧ k ≠ 72 + c ∧ k ≠ 86 + c ∧ ¬ (102 ≤ k ∧ k ≤ 106)) → gi τ k j = gi σ k j
theorem frun_ne {σ τ : PS} (h : FRM SX5_run σ τ) {k : Nat} (h1 : k ≠ 123) (h2 : k ≠ 131) (j : Nat) : gi τ k j = gi σ k j := by
  refine h.1 k ?_ j
  unfold SX5_run inS
  simp
  omega
theorem goOn_ok {b c d h n na nc : Nat} {e : TB} {l : List RU} {sh : Nat → Nat → Bool} {D : TB} {σ : PS} (hb : isBk b = true) (hE : CE e l b sh n σ) (hL : LE e na nc) (hc : c < nc) (hd : d < 60) (hh : h < na) (hg : e 21 c ≠ nI h) (hD0 : D 0 c = nI h) (hR : CR σ c d D) (hG : LR σ d D) : hO (fX1_goOn b (nI c) (nI d) (nI n) σ) (fun τ => CR τ c d (brS e l sh d c (nI h) (nxS e c (nI h)) D) ∧ LR τ d (brS e l sh d c (nI h) (nxS e c (nI h)) D) ∧ goF c d σ τ) := by
  obtain ⟨L1, L2, L3, L4, L5, L6⟩ := hL
  obtain ⟨-, -, -, ⟨fr, t, -, ht, -, htn, -⟩, -⟩ := L6 c hc
  have hc6 : c < 6 := by omega
  obtain ⟨E1, E2, E3⟩ := hE
  obtain ⟨x, hx, hxe, hxh⟩ := nx_of (c := c) ht hh htn (fun q => hg (by rw [ht, q])) L1
  rw [goOn_red (t := t) (na := na) hc6 hd (hR.1.trans hD0) (E1 21 (by decide) (by decide) c), hxe]
  unfold fX1_goOn_35
  have hin : ∀ y, y < na → ∀ τ : PS, gi τ 3 0 = nI na → (0 ≤ nI y ∧ nI y ≤ gi τ 3 0 - 1) := fun y hy τ ht => by rw [ht]; exact (isN_lt (by omega)).mpr ⟨y, rfl, hy⟩
  have e30 : gi σ 3 0 = nI na := by rw [E1 3 (by decide) (by decide)]; exact L3
  rw [hasInn_eq]
  simp only [Option.bind_some]
  rw [ite_tv, if_pos (hin h hh σ e30), hasInn_eq]
  simp only [Option.bind_some]
  rw [ite_tv, if_pos (hin x hx σ e30), setVars_eq hc6 hd]
  simp only [Option.bind_some]
  have g8x : inb (nI x) 8 = true := inb_nI (by omega) (by decide)
  have g8h : inb (nI h) 8 = true := inb_nI (by omega) (by decide)
  have g6 : inb (nI c) 6 = true := inb_nI hc6 (by decide)
  have g60 : inb (nI d) 60 = true := inb_nI hd (by decide)
  obtain ⟨lx, hlx, -, hlx4⟩ := (L5 x hx).1
  obtain ⟨R0, R1, R2, R3, R4, R5, R6⟩ := hR
  have c1 : (nI x).toNatClampNeg = x := nI_clamp (by omega)
  have c2 : (nI h).toNatClampNeg = h := nI_clamp (by omega)
  have c3 : (nI d).toNatClampNeg = d := nI_clamp (by omega)
  have c4 : (nI lx).toNatClampNeg = lx := nI_clamp (by omega)
  have hv := svX_vars (i := nI x) (e := e) hc6 (E1 17 (by decide) (by decide) c) (E1 18 (by decide) (by decide) c) (E1 19 (by decide) (by decide) c) (E1 23 (by decide) (by decide) c) R2 R3
  rw [gd_t g8x, c1, svX_ne (by decide), E1 4 (by decide) (by decide), hlx]
  have hB1 : BKC (svX σ c d (nI x)) b l := BKC_fr (fun i hi j => svX_ne (by rcases bk_or hb with rfl | rfl <;> omega)) E2
  refine (bar_ok hb (vrS e c (D 2 c) (D 3 c) d (nI x)) (nI lx) hB1 hv).then ?_
  rintro ⟨y, σ5⟩ ⟨hy, hf⟩
  simp only at hy hf ⊢
  have f5 : ∀ k, k ≠ 42 → k ≠ 123 → k ≠ 131 → ∀ j, gi σ5 k j = gi σ k j := fun k h1 h2 h3 j => by rw [frun_ne hf h2 h3, svX_ne h1]
  rw [gd_t g6, gd_t g60, r85 (show c < 2 ^ 31 by omega), c3]
  have hB5 : BKC σ5 b l := BKC_fr (fun i hi j => bk_fr hb hf i hi j) hB1
  have hv5 : ∀ k, k < 8 → gi σ5 42 k = vrS e c (D 2 c) (D 3 c) d (nI x) k := fun k hk => by rw [frun_ne hf (by decide) (by decide)]; exact hv k hk
  unfold brS goS
  rw [c1, hlx, ← hy, imin_nI (by omega) (by omega), nI_clamp (show min h x < 2 ^ 31 by omega), c2, c4]
  have m8 : min h x < 8 := by omega
  -- what stands when only the bar is written
  have base : CR (sI σ5 (86 + c) d y) c d (u2 D 6 c y) ∧ LR (sI σ5 (86 + c) d y) d (u2 D 6 c y) ∧ goF c d σ (sI σ5 (86 + c) d y) := by
    refine ⟨⟨?_, ?_, ?_, ?_, ?_, ?_, ?_⟩, ?_, ?_⟩
    · rw [gi_ne (by omega), f5 _ (by omega) (by omega) (by omega), R0]; rfl
    · rw [gi_ne (by omega), f5 _ (by omega) (by omega) (by omega), R1]; rfl
    · rw [gi_ne (by omega), f5 _ (by omega) (by omega) (by omega), R2]; rfl
    · rw [gi_ne (by omega), f5 _ (by omega) (by omega) (by omega), R3]; rfl
    · rw [gi_ne (by omega), f5 _ (by omega) (by omega) (by omega), R4]; rfl
    · rw [gi_ne (by omega), f5 _ (by omega) (by omega) (by omega), R5]; rfl
    · rw [gi_eq]; unfold u2; rw [if_pos rfl, if_pos rfl]
    · intro q hq
      rw [gi_ne (by omega), f5 _ (by omega) (by omega) (by omega), hG q hq]; rfl
    · intro k j h1 h2 h3 h4
      by_cases hj : j = d
      · rw [gi_ne (h4 hj).2.2.1]; exact f5 k h1 h2 h3 j
      · by_cases hk : k = 86 + c
        · subst hk
          rw [gi_nj hj]; exact f5 _ h1 h2 h3 j
        · rw [gi_ne hk]; exact f5 k h1 h2 h3 j
  by_cases hbar : y = -1
  · rw [if_pos hbar, isShut_eq m8 hd]
    simp only [Option.bind_some]
    rw [ite_tv]
    have hsh : (1 ≤ gi (sI σ5 (86 + c) d y) (30 + min h x) d ∧ gi (sI σ5 (86 + c) d y) (30 + min h x) d ≤ nI n) ↔ sh (min h x) d = true := by
      rw [gi_ne (by omega), f5 _ (by omega) (by omega) (by omega)]
      exact E3 (min h x) m8 d hd
    by_cases hs : sh (min h x) d = true
    · rw [if_pos (hsh.mpr hs), if_neg (fun q => by rw [hs] at q; cases q.2.1)]
      exact ⟨_, rfl, base⟩
    · have hs' : sh (min h x) d = false := by cases hq : sh (min h x) d with
        | true => exact absurd hq hs
        | false => rfl
      rw [if_neg (fun q => hs (hsh.mp q)), gd_t g6, gd_t g60, r57 (show c < 2 ^ 31 by omega), gi_ne (show 58 + c ≠ 86 + c by omega), f5 (58 + c) (by omega) (by omega) (by omega), R2]
      by_cases h3 : 3 ≤ D 2 c
      · rw [if_pos h3, if_neg (fun q => q.2.2 h3)]
        exact ⟨_, rfl, base⟩
      · rw [if_neg h3, if_pos (show y = -1 ∧ sh (min h x) d = false ∧ ¬ 3 ≤ D 2 c from ⟨hbar, hs', h3⟩), gd_t g6, gd_t g60, gd_t g8x, gd_t g8h, r43 (show c < 2 ^ 31 by omega)]
        have e4x : gi (sI (sI σ5 (86 + c) d y) (44 + c) d (nI x)) 4 x = nI lx := by
          rw [gi_ne (by omega), gi_ne (by omega), f5 4 (by decide) (by decide) (by decide), E1 4 (by decide) (by decide), hlx]
        have e4h : gi (sI (sI σ5 (86 + c) d y) (44 + c) d (nI x)) 4 h = e 4 h := by
          rw [gi_ne (by omega), gi_ne (by omega), f5 4 (by decide) (by decide) (by decide), E1 4 (by decide) (by decide)]
        rw [e4x, e4h]
        obtain ⟨⟨B0, B1, B2, B3, B4, B5, B6⟩, BL, BF⟩ := base
        -- gone, without a toll
        have bas2 : ∀ τ : PS, (∀ k, k ≠ 123 → k ≠ 131 → ∀ j, gi τ k j = gi (sI (sI σ5 (86 + c) d y) (44 + c) d (nI x)) k j) → CR τ c d (u2 (u2 D 6 c y) 0 c (nI x)) ∧ LR τ d (u2 (u2 D 6 c y) 0 c (nI x)) ∧ goF c d σ τ := by
          intro τ hτ
          refine ⟨⟨?_, ?_, ?_, ?_, ?_, ?_, ?_⟩, ?_, ?_⟩
          · rw [hτ _ (by omega) (by omega), gi_eq]; unfold u2; rw [if_pos rfl, if_pos rfl]
          · rw [hτ _ (by omega) (by omega), gi_ne (by omega), B1]; rfl
          · rw [hτ _ (by omega) (by omega), gi_ne (by omega), B2]; rfl
          · rw [hτ _ (by omega) (by omega), gi_ne (by omega), B3]; rfl
          · rw [hτ _ (by omega) (by omega), gi_ne (by omega), B4]; rfl
          · rw [hτ _ (by omega) (by omega), gi_ne (by omega), B5]; rfl
          · rw [hτ _ (by omega) (by omega), gi_ne (by omega), B6]; rfl
          · intro q hq
            rw [hτ _ (by omega) (by omega), gi_ne (by omega), BL q hq]; rfl
          · intro k j h1 h2 h3 h4
            rw [hτ _ h2 h3]
            by_cases hj : j = d
            · rw [gi_ne (h4 hj).1]; exact BF k j h1 h2 h3 h4
            · by_cases hk : k = 44 + c
              · subst hk
                rw [gi_nj hj]; exact BF _ j h1 h2 h3 h4
              · rw [gi_ne hk]; exact BF k j h1 h2 h3 h4
        by_cases hlo : nI lx = e 4 h
        · rw [if_pos hlo, if_pos hlo]
          exact ⟨_, rfl, bas2 _ (fun _ _ _ _ => rfl)⟩
        · rw [if_neg hlo, if_neg hlo, gd_t g8x, gd_t g8x]
          have hB6 : BKC (sI (sI σ5 (86 + c) d y) (44 + c) d (nI x)) b l := BKC_fr (fun i hi j => by rw [gi_ne (by rcases bk_or hb with rfl | rfl <;> omega), gi_ne (by rcases bk_or hb with rfl | rfl <;> omega)]) hB5
          have hv6 : ∀ k, k < 8 → gi (sI (sI σ5 (86 + c) d y) (44 + c) d (nI x)) 42 k = vrS e c (D 2 c) (D 3 c) d (nI x) k := fun k hk => by rw [gi_ne (by omega), gi_ne (by omega)]; exact hv5 k hk
          rw [show u2 D 6 c y 2 c = D 2 c from rfl, show u2 D 6 c y 3 c = D 3 c from rfl]
          have hval := val_ok hb (vrS e c (D 2 c) (D 3 c) d (nI x)) 1 (by decide) (nI lx) hB6 hv6
          refine hval.then ?_
          rintro ⟨z, σ6⟩ ⟨hz, hf6⟩
          simp only at hz hf6 ⊢
          rw [← hz]
          have b6 := bas2 σ6 (fun k h1 h2 j => frun_ne hf6 h1 h2 j)
          unfold fX1_pay
          by_cases hz0 : z ≤ 0
          · rw [if_pos hz0, if_pos hz0]
            exact ⟨_, rfl, b6⟩
          · rw [if_neg hz0, if_neg hz0, gd_t g6, gd_t g60, gd_t g60, gd_t (inb_nI (show lx < 5 by omega) (by decide)), gd_t g60, gd_t g60, r71 (show c < 2 ^ 31 by omega), r101 (show lx < 2 ^ 31 by omega), c3]
            obtain ⟨⟨A0, A1, A2, A3, A4, A5, A6⟩, AL, AF⟩ := b6
            rw [gi_ne (show 102 + lx ≠ 72 + c by omega), A4, AL lx (by omega)]
            refine ⟨_, rfl, ⟨?_, ?_, ?_, ?_, ?_, ?_, ?_⟩, ?_, ?_⟩
            · rw [gi_ne (by omega), gi_ne (by omega), A0]; rfl
            · rw [gi_ne (by omega), gi_ne (by omega), A1]; rfl
            · rw [gi_ne (by omega), gi_ne (by omega), A2]; rfl
            · rw [gi_ne (by omega), gi_ne (by omega), A3]; rfl
            · rw [gi_ne (by omega), gi_eq]
              unfold u2
              simp
            · rw [gi_ne (by omega), gi_ne (by omega), A5]; rfl
            · rw [gi_ne (by omega), gi_ne (by omega), A6]; rfl
            · intro q hq
              show _ = (if (8 : Nat) = 8 then (if q = lx then _ else _) else _)
              rw [if_pos rfl]
              by_cases hql : q = lx
              · subst hql
                rw [gi_eq, if_pos rfl]
                rfl
              · rw [gi_ne (by omega), gi_ne (by omega), AL q hq, if_neg hql]
                rfl
            · intro k j h1 h2 h3 h4
              by_cases hj : j = d
              · have := h4 hj
                rw [gi_ne (by omega), gi_ne (by omega)]
                exact AF k j h1 h2 h3 h4
              · by_cases hk : k = 102 + lx
                · subst hk
                  rw [gi_nj hj, gi_ne (by omega)]; exact AF _ j h1 h2 h3 h4
                · by_cases hk' : k = 72 + c
                  · subst hk'
                    rw [gi_ne hk, gi_nj hj]; exact AF _ j h1 h2 h3 h4
                  · rw [gi_ne hk, gi_ne hk']; exact AF k j h1 h2 h3 h4
  · rw [if_neg hbar, if_neg (fun q => hbar q.1)]
    exact ⟨_, rfl, base⟩
