/-! the reference's morning -/
def ME (e : TB) (l : List RU) (s : Nat) (sh : Nat → Nat → Bool) (σ : PS) : Prop := (gi σ 132 38 = e 3 0 ∧ gi σ 132 44 = e 3 6) ∧ (∀ j, gi σ 156 j = e 4 j ∧ gi σ 157 j = e 5 j ∧ gi σ 158 j = e 6 j ∧ gi σ 159 j = e 7 j ∧ gi σ 161 j = e 17 j ∧ gi σ 162 j = e 18 j ∧ gi σ 163 j = e 19 j ∧ gi σ 164 j = e 20 j ∧ gi σ 165 j = e 21 j ∧ gi σ 166 j = e 22 j ∧ gi σ 167 j = e 23 j) ∧ (∀ i, i < 8 → ∀ r, r < 3 → gi σ 160 (3 * i + r) = e (9 + i) r) ∧ BKM σ s l ∧ ∀ i, i < 8 → ∀ d, d < 60 → gi σ 181 (60 * i + d) = tb (sh i d)
theorem BKM_fr {σ τ : PS} {s : Nat} {l : List RU} (h : BKM σ s l) (f1 : gi τ 132 18 = gi σ 132 18) (f2 : sameB σ τ) : BKM τ s l := ⟨h.1, h.2.1, by rw [f1]; exact h.2.2.1, by rw [f2 140 (by decide) (by decide)]; exact h.2.2.2.1, bmR_sb f2 h.2.2.2.2.1, h.2.2.2.2.2⟩
theorem ME_fr {e : TB} {l : List RU} {s : Nat} {sh : Nat → Nat → Bool} {σ τ : PS} (h : ME e l s sh σ) (f : ∀ k, (132 ≤ k ∧ k ≤ 168) ∨ k = 181 → ∀ j, gi τ k j = gi σ k j) : ME e l s sh τ := by
  obtain ⟨⟨a1, a2⟩, a3, a4, a5, a6⟩ := h
  refine ⟨⟨by rw [f 132 (by omega)]; exact a1, by rw [f 132 (by omega)]; exact a2⟩, fun j => ?_, fun i hi r hr => by rw [f 160 (by omega)]; exact a4 i hi r hr, BKM_fr a5 (f 132 (by omega) _) (fun k h1 h2 j => f k (by omega) j), fun i hi d hd => by rw [f 181 (by omega)]; exact a6 i hi d hd⟩
  rw [f 156 (by omega), f 157 (by omega), f 158 (by omega), f 159 (by omega), f 161 (by omega), f 162 (by omega), f 163 (by omega), f 164 (by omega), f 165 (by omega), f 166 (by omega), f 167 (by omega)]
  exact a3 j
def akX (σ : PS) (c d : Nat) (i : Int32) : PS := sI (sI (sI (sI (sI (sI (sI (sI σ 187 0 (gi σ 161 c)) 187 1 (gi σ 162 c)) 187 2 (gi σ 163 c)) 187 3 (gi σ 167 c)) 187 4 (gi σ 183 c)) 187 5 (nI d)) 187 6 i) 187 7 (gi σ 184 c)
theorem asks_eq {c d : Nat} (hc : c < 6) (i : Int32) (σ : PS) : fX9_asks (nI c) (nI d) i σ = some (akX σ c d i) := by
  have g6 : inb (nI c) 6 = true := inb_nI hc (by decide)
  unfold fX9_asks
  simp only [gd_t g6, nI_clamp (n := c) (show c < 2 ^ 31 by omega)]
  simp (disch := omega) only [gi_ne]
  rfl
theorem akX_ne {σ : PS} {c d : Nat} {i : Int32} {k j : Nat} (h : k ≠ 187) : gi (akX σ c d i) k j = gi σ k j := by
  unfold akX
  simp (disch := omega) only [gi_ne]
theorem akX_vars {c d : Nat} {i : Int32} {σ : PS} {e : TB} {hun lat : Int32} (h17 : gi σ 161 c = e 17 c) (h18 : gi σ 162 c = e 18 c) (h19 : gi σ 163 c = e 19 c) (h23 : gi σ 167 c = e 23 c) (hh : gi σ 183 c = hun) (hl : gi σ 184 c = lat) : ∀ k, k < 8 → gi (akX σ c d i) 187 k = vrS e c hun lat d i k := by
  intro k hk
  unfold akX vrS
  rw [h17, h18, h19, h23, hh, hl]
  match k, hk with
  | 0, _ => rfl
  | 1, _ => rfl
  | 2, _ => rfl
  | 3, _ => rfl
  | 4, _ => rfl
  | 5, _ => rfl
  | 6, _ => rfl
  | 7, _ => rfl
theorem f188_ne {σ τ : PS} {S : List (Nat × Nat)} (hS : S = [(188, 188)]) (h : FRM S σ τ) {k : Nat} (h1 : k ≠ 188) (j : Nat) : gi τ k j = gi σ k j := by
  subst hS
  refine h.1 k ?_ j
  unfold inS
  simp
  omega
/-- nothing but a caravan's way on a morning -/
def mgF (c d : Nat) (σ τ : PS) : Prop := ∀ k j, k ≠ 187 → k ≠ 188 → k ≠ 186 → (k = 178 → j ≠ 60 * c + d) → (k = 182 → j ≠ c) → (k = 185 → j ≠ c) → gi τ k j = gi σ k j
theorem mmor_ok {c d na nc s : Nat} {e : TB} {l : List RU} {sh : Nat → Nat → Bool} {D : TB} {σ : PS} (hz : ∀ r ∈ l, r.1 = 0 → r.2.1 = 0) (hE : ME e l s sh σ) (hL : LE e na nc) (hc : c < nc) (hd : d < 60) (hDI : DI D na nc) (h182 : gi σ 182 c = wkS e D c) (h183 : gi σ 183 c = D 2 c) (h184 : gi σ 184 c = D 3 c) (h185 : gi σ 185 c = D 4 c) (h186 : ∀ x, x < 5 → gi σ 186 x = D 8 x) : hO (fX9_morning (nI c) (nI d) σ) (fun τ => gi τ 182 c = mo1S e l sh d D c 0 c ∧ gi τ 185 c = mo1S e l sh d D c 4 c ∧ gi τ 178 (60 * c + d) = mo1S e l sh d D c 6 c ∧ (∀ x, x < 5 → gi τ 186 x = mo1S e l sh d D c 8 x) ∧ mgF c d σ τ) := by
  obtain ⟨L1, L2, L3, L4, L5, L6⟩ := hL
  obtain ⟨-, -, -, ⟨fr, t, -, ht, -, htn, -⟩, -⟩ := L6 c hc
  obtain ⟨⟨E1, E2⟩, E3, E4, E5, E6⟩ := hE
  have hc6 : c < 6 := by omega
  have g6 : inb (nI c) 6 = true := inb_nI hc6 (by decide)
  have g360 : inb (nI (60 * c + d)) 360 = true := inb_nI (by omega) (by decide)
  have cc : (nI c).toNatClampNeg = c := nI_clamp (by omega)
  have ck : (nI (60 * c + d)).toNatClampNeg = 60 * c + d := nI_clamp (by omega)
  unfold fX9_morning
  rw [nI60, gd_t g360, gd_t g6, cc, ck, gi_ne (show (182 : Nat) ≠ 178 by decide), h182, gi_ne (show (165 : Nat) ≠ 178 by decide), (E3 c).2.2.2.2.2.2.2.2.1]
  generalize hσ1 : sI σ 178 (60 * c + d) (-1) = σ1
  have s1 : ∀ k j, (k = 178 → j ≠ 60 * c + d) → gi σ1 k j = gi σ k j := by
    intro k j hk
    rw [← hσ1]
    by_cases h : k = 178
    · subst h; rw [gi_nj (hk rfl)]
    · rw [gi_ne h]
  have s178 : gi σ1 178 (60 * c + d) = -1 := by rw [← hσ1, gi_eq]
  unfold mo1S
  rcases wkS_DI (e := e) hDI hc with hw | ⟨h, hh, hw, hw0, hne⟩
  · rw [if_pos hw, if_pos hw]
    refine ⟨_, rfl, ?_, ?_, ?_, fun x hx => ?_, fun k j h1 h2 h3 h4 h5 h6 => s1 k j h4⟩
    · rw [s1 _ _ (by omega), h182]; unfold slS
      rw [u2_ne (by omega), u2_ne (by omega), u2_ne (by omega), u2_eq]
    · rw [s1 _ _ (by omega), h185, slS_ne (by omega)]
    · rw [s178]; unfold slS; rw [u2_eq]
    · rw [s1 _ _ (by omega), h186 x hx, slS_ne (by omega)]
  · have hw1 : ¬ wkS e D c = -1 := by rw [hw]; exact nI_m1 (by omega)
    rw [if_neg hw1, if_neg hw1, hw]
    simp only [gd_t g6]
    obtain ⟨x, hx, hxe, hxh⟩ := nx_of (c := c) ht hh htn (fun q => hne (by rw [hw0, ht, q])) L1
    have e182 : gi σ1 182 c = nI h := by rw [s1 _ _ (by omega), h182, hw]
    -- both ways lead to the same call
    have red : (if e 21 c ≤ nI h then fX9_morning_57 (nI c) (nI d) (nI h - 1) σ1 else fX9_morning_57 (nI c) (nI d) (nI h + 1) σ1) = fX9_morning_78 (nI c) (nI d) (nI x) (nI (min h x)) σ1 := by
      have e57 : (if e 21 c ≤ nI h then fX9_morning_57 (nI c) (nI d) (nI h - 1) σ1 else fX9_morning_57 (nI c) (nI d) (nI h + 1) σ1) = fX9_morning_57 (nI c) (nI d) (nxS e c (nI h)) σ1 := by
        unfold nxS
        split <;> rfl
      rw [e57, hxe]
      unfold fX9_morning_57
      rw [gd_t g6, gd_t g6, cc, e182]
      by_cases hq : x ≤ h
      · rw [if_pos (nI_le hq (by omega)), Nat.min_eq_right hq]
      · rw [if_neg (nI_ge (by omega) (by omega)), Nat.min_eq_left (by omega)]
    rw [red, hxe]
    clear red
    unfold fX9_morning_78
    rw [asks_eq hc6]
    simp only [Option.bind_some]
    have g8x : inb (nI x) 8 = true := inb_nI (by omega) (by decide)
    obtain ⟨lx, hlx, -, hlx4⟩ := (L5 x hx).1
    have cx : (nI x).toNatClampNeg = x := nI_clamp (by omega)
    have chh : (nI h).toNatClampNeg = h := nI_clamp (by omega)
    have clx : (nI lx).toNatClampNeg = lx := nI_clamp (by omega)
    have E3c := E3 c
    have hv := akX_vars (d := d) (i := nI x) (σ := σ1) (e := e) (c := c) (hun := D 2 c) (lat := D 3 c) (by rw [s1 _ _ (by omega)]; exact E3c.2.2.2.2.1) (by rw [s1 _ _ (by omega)]; exact E3c.2.2.2.2.2.1) (by rw [s1 _ _ (by omega)]; exact E3c.2.2.2.2.2.2.1) (by rw [s1 _ _ (by omega)]; exact E3c.2.2.2.2.2.2.2.2.2.2) (by rw [s1 _ _ (by omega)]; exact h183) (by rw [s1 _ _ (by omega)]; exact h184)
    have e156 : ∀ j, gi (akX σ1 c d (nI x)) 156 j = e 4 j := fun j => by rw [akX_ne (by decide), s1 _ _ (fun q => absurd q (by decide))]; exact (E3 j).1
    rw [gd_t g8x, cx, e156, hlx]
    have hB1 : BKM (akX σ1 c d (nI x)) s l := BKM_fr E5 (by rw [akX_ne (by decide), s1 _ _ (by omega)]) (fun k h1 h2 j => by rw [akX_ne (by omega), s1 _ _ (by omega)])
    refine (barOf_ok (x := nI lx) _ hB1 hv).then ?_
    rintro ⟨y, σ5⟩ ⟨hy, hf⟩
    simp only at hy hf ⊢
    have f5 : ∀ k j, k ≠ 187 → k ≠ 188 → (k = 178 → j ≠ 60 * c + d) → gi σ5 k j = gi σ k j := fun k j h1 h2 h3 => by rw [f188_ne rfl hf h2, akX_ne h1, s1 _ _ h3]
    have c57 : (nI (60 * min h x + d)).toNatClampNeg = 60 * min h x + d := nI_clamp (by omega)
    rw [nI60, nI60]
    simp only [gd_t g360, gd_t g6, gd_t g8x, gd_t (inb_nI (show 60 * min h x + d < 480 by omega) (show 480 < 2 ^ 31 by decide))]
    rw [ck, c57, gi_eq, gi_ne (show (181 : Nat) ≠ 178 by decide), gi_ne (show (183 : Nat) ≠ 178 by decide), gi_ne (show (182 : Nat) ≠ 178 by decide), cc]
    rw [f5 181 _ (by decide) (by decide) (fun q => absurd q (by decide)), E6 (min h x) (by omega) d hd, f5 183 c (by decide) (by decide) (by omega), h183, f5 182 c (by decide) (by decide) (by omega), h182, hw, gd_t (inb_nI (show h < 8 by omega) (by decide)), chh]
    unfold brS goS
    rw [show slS D c (nI h) 2 c = D 2 c from slS_ne (by omega), show slS D c (nI h) 3 c = D 3 c from slS_ne (by omega), cx, hlx, ← hy, imin_nI (by omega) (by omega), nI_clamp (show min h x < 2 ^ 31 by omega), chh, clx]
    generalize hτ : sI σ5 178 (60 * c + d) y = τ
    have t1 : ∀ k j, k ≠ 187 → k ≠ 188 → (k = 178 → j ≠ 60 * c + d) → gi τ k j = gi σ k j := by
      intro k j h1 h2 h3
      rw [← hτ]
      by_cases hk : k = 178
      · subst hk; rw [gi_nj (h3 rfl)]; exact f5 _ j h1 h2 h3
      · rw [gi_ne hk]; exact f5 k j h1 h2 h3
    have t178 : gi τ 178 (60 * c + d) = y := by rw [← hτ, gi_eq]
    have sl0 : slS D c (nI h) 0 c = nI h := by unfold slS; rw [u2_ne (by omega), u2_ne (by omega), u2_ne (by omega), u2_eq]
    have sl4 : slS D c (nI h) 4 c = D 4 c := slS_ne (by omega)
    have sl8 : ∀ q, slS D c (nI h) 8 q = D 8 q := fun q => slS_ne (by omega)
    have base : gi τ 182 c = u2 (slS D c (nI h)) 6 c y 0 c ∧ gi τ 185 c = u2 (slS D c (nI h)) 6 c y 4 c ∧ gi τ 178 (60 * c + d) = u2 (slS D c (nI h)) 6 c y 6 c ∧ (∀ x, x < 5 → gi τ 186 x = u2 (slS D c (nI h)) 6 c y 8 x) ∧ mgF c d σ τ := by
      refine ⟨?_, ?_, ?_, fun q hq => ?_, fun k j h1 h2 h3 h4 h5 h6 => t1 k j h1 h2 h4⟩
      · rw [t1 _ _ (by decide) (by decide) (by omega), h182, hw, u2_ne (by omega), sl0]
      · rw [t1 _ _ (by decide) (by decide) (by omega), h185, u2_ne (by omega), sl4]
      · rw [t178, u2_eq]
      · rw [t1 _ _ (by decide) (by decide) (by omega), h186 q hq, u2_ne (by omega), sl8]
    by_cases hbar : y = -1
    · rw [if_pos hbar]
      by_cases hs : sh (min h x) d = true
      · rw [hs, if_neg (show ¬ tb true = 0 by decide), if_neg (show ¬ (y = -1 ∧ true = false ∧ ¬ 3 ≤ D 2 c) from fun q => by cases q.2.1)]
        exact ⟨_, rfl, base⟩
      · have hs' : sh (min h x) d = false := by
          cases hq : sh (min h x) d with
          | true => exact absurd hq hs
          | false => rfl
        rw [hs', if_pos (show tb false = 0 from rfl)]
        by_cases h3 : 3 ≤ D 2 c
        · have h3' : ¬ D 2 c ≤ 2 := by
            rw [Int32.le_iff_toInt_le] at h3 ⊢
            have e3 : (3 : Int32).toInt = 3 := by decide
            have e2 : (2 : Int32).toInt = 2 := by decide
            omega
          rw [if_neg h3', if_neg (show ¬ (y = -1 ∧ false = false ∧ ¬ 3 ≤ D 2 c) from fun q => q.2.2 h3)]
          exact ⟨_, rfl, base⟩
        · have h3' : D 2 c ≤ 2 := by
            rw [Int32.le_iff_toInt_le] at h3 ⊢
            have e3 : (3 : Int32).toInt = 3 := by decide
            have e2 : (2 : Int32).toInt = 2 := by decide
            omega
          rw [if_pos h3', if_pos (show y = -1 ∧ false = false ∧ ¬ 3 ≤ D 2 c from ⟨hbar, rfl, h3⟩)]
          have e4x : ∀ j, gi τ 156 j = e 4 j := fun j => by rw [t1 _ _ (by decide) (by decide) (fun q => absurd q (by decide))]; exact (E3 j).1
          rw [e4x, e4x, hlx]
          obtain ⟨B0, B4, B6, B8, BF⟩ := base
          have bas2 : ∀ υ : PS, (∀ k, k ≠ 188 → ∀ j, gi υ k j = gi τ k j) → gi (sI υ 182 c (nI x)) 182 c = u2 (u2 (slS D c (nI h)) 6 c y) 0 c (nI x) 0 c ∧ gi (sI υ 182 c (nI x)) 185 c = u2 (u2 (slS D c (nI h)) 6 c y) 0 c (nI x) 4 c ∧ gi (sI υ 182 c (nI x)) 178 (60 * c + d) = u2 (u2 (slS D c (nI h)) 6 c y) 0 c (nI x) 6 c ∧ (∀ q, q < 5 → gi (sI υ 182 c (nI x)) 186 q = u2 (u2 (slS D c (nI h)) 6 c y) 0 c (nI x) 8 q) ∧ mgF c d σ (sI υ 182 c (nI x)) := by
            intro υ hu
            refine ⟨?_, ?_, ?_, fun q hq => ?_, fun k j h1 h2 h3 h4 h5 h6 => ?_⟩
            · rw [gi_eq, u2_eq]
            · rw [gi_ne (by decide), hu _ (by decide), u2_ne (by omega)]; exact B4
            · rw [gi_ne (by decide), hu _ (by decide), u2_ne (by omega)]; exact B6
            · rw [gi_ne (by decide), hu _ (by decide), u2_ne (by omega)]; exact B8 q hq
            · by_cases hk : k = 182
              · subst hk; rw [gi_nj (h5 rfl), hu _ h2]; exact BF _ j h1 h2 h3 h4 h5 h6
              · rw [gi_ne hk, hu _ h2]; exact BF k j h1 h2 h3 h4 h5 h6
          by_cases hlo : nI lx = e 4 h
          · rw [if_pos hlo, if_pos hlo]
            exact ⟨_, rfl, bas2 τ (fun _ _ _ => rfl)⟩
          · rw [if_neg hlo, if_neg hlo]
            have hB6 : BKM τ s l := BKM_fr E5 (t1 _ _ (by decide) (by decide) (by omega)) (fun k h1 h2 j => t1 k j (by omega) (by omega) (by omega))
            have hv6 : ∀ k, k < 8 → gi τ 187 k = vrS e c (D 2 c) (D 3 c) d (nI x) k := fun k hk => by rw [← hτ, gi_ne (by decide), f188_ne rfl hf (by decide)]; exact hv k hk
            have hval := says_ok (t := 1) (x := nI lx) _ hB6 hz (by decide) (fun q => absurd q (by decide)) hv6
            rw [if_neg (show ¬ (1 : Nat) = 0 by decide)] at hval
            rw [show u2 (slS D c (nI h)) 6 c y 2 c = D 2 c by rw [u2_ne (by omega)]; exact slS_ne (by omega), show u2 (slS D c (nI h)) 6 c y 3 c = D 3 c by rw [u2_ne (by omega)]; exact slS_ne (by omega)]
            refine hval.then ?_
            rintro ⟨z, σ6⟩ ⟨hzz, hf6⟩
            simp only at hzz hf6 ⊢
            rw [← hzz]
            have b6 : ∀ k, k ≠ 188 → ∀ j, gi σ6 k j = gi τ k j := fun k hk j => f188_ne rfl hf6 hk j
            by_cases hz0 : z ≤ 0
            · rw [if_pos hz0, if_pos hz0]
              exact ⟨_, rfl, bas2 σ6 b6⟩
            · rw [if_neg hz0, if_neg hz0, gi_ne (show (156 : Nat) ≠ 185 by decide), b6 156 (by decide), e4x, hlx, gd_t (inb_nI (show lx < 5 by omega) (by decide)), gd_t (inb_nI (show lx < 5 by omega) (by decide)), clx, gi_ne (show (186 : Nat) ≠ 185 by decide), b6 185 (by decide), b6 186 (by decide), B4, B8 lx (by omega)]
              refine ⟨_, rfl, ?_, ?_, ?_, fun q hq => ?_, fun k j h1 h2 h3 h4 h5 h6 => ?_⟩
              · rw [gi_eq, u2_ne (by omega), u2_ne (by omega), u2_eq]
              · rw [gi_ne (by decide), gi_ne (by decide), gi_eq, u2_ne (show (4 : Nat) ≠ 8 ∨ c ≠ lx by omega), u2_eq]
              · rw [gi_ne (by decide), gi_ne (by decide), gi_ne (by decide), b6 _ (by decide), B6]
                symm
                rw [u2_ne (by omega), u2_ne (by omega), u2_ne (by omega)]
              · by_cases hql : q = lx
                · subst hql
                  rw [gi_ne (by decide), gi_eq, u2_eq]
                · rw [gi_ne (by decide), gi_nj hql, gi_ne (by decide), b6 _ (by decide), B8 q hq]
                  symm
                  rw [u2_ne (by omega), u2_ne (by omega), u2_ne (by omega)]
              · rw [gi_sI]
                by_cases hk : k = 182
                · rw [if_pos hk, if_neg (h5 hk), gi_ne h3, gi_ne (by omega), b6 _ h2]; exact BF k j h1 h2 h3 h4 h5 h6
                · rw [if_neg hk, gi_ne h3, gi_sI]
                  by_cases hk2 : k = 185
                  · rw [if_pos hk2, if_neg (h6 hk2), b6 _ h2]; exact BF k j h1 h2 h3 h4 h5 h6
                  · rw [if_neg hk2, b6 _ h2]; exact BF k j h1 h2 h3 h4 h5 h6
    · rw [if_neg hbar, if_neg (fun q => hbar q.1)]
      exact ⟨_, rfl, base⟩
