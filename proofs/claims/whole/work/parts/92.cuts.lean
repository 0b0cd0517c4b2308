/-! names and numbers, cut by the reference -/
theorem tx_end {f : Nat → Int32} {n : Nat} : txS f n n = 0 := if_neg (Nat.lt_irrefl n)
theorem nam_loop {r7 : Int32 → PS → Option PS} {n s : Nat} {σ : PS} {T : Nat → Int32} (hn : n ≤ 2000) (h4 : gi σ 132 4 = nI n) (hT : txS (gi σ 134) n = T) : ∀ (r m x : Nat), s + x + r = n → (∀ i, i < x → ltr (T (s + i))) → fX9_cut_85 r7 (m + r + 1) (nI s) (nI x) (Int64.ofNat (nmN T s (min x 8))) σ = fX9_cut_135 r7 (nI s) (nI (runS (inR 97 122) T r (s + x) - s)) (Int64.ofNat (nmN T s (min (runS (inR 97 122) T r (s + x) - s) 8))) (if runS (inR 97 122) T r (s + x) - s ≤ 8 then 1 else 3) σ := by
  have stop : ∀ (m x : Nat), s + x ≤ n → ¬ inR 97 122 (T (s + x)) = true → fX9_cut_85 r7 (m + 1) (nI s) (nI x) (Int64.ofNat (nmN T s (min x 8))) σ = fX9_cut_135 r7 (nI s) (nI x) (Int64.ofNat (nmN T s (min x 8))) (if x ≤ 8 then 1 else 3) σ := by
    intro m x hx hl
    rw [fX9_cut_85, nI_add, at9_eq hn h4 (by omega), hT]
    simp only [Option.bind_some]
    rw [letter_eq]
    simp only [Option.bind_some]
    rw [ite_tb, if_neg hl]
    by_cases h8 : x ≤ 8
    · rw [if_pos (r_le (k := 8) (by rfl) h8 (by decide)), if_pos h8]
    · rw [if_neg (r_nle (k := 8) (by rfl) (by omega) (by omega)), if_neg h8]
  intro r
  induction r with
  | zero =>
    intro m x hx hl
    rw [runS, show s + x - s = x by omega]
    refine stop m x (by omega) ?_
    rw [show s + x = n by omega, ← hT, tx_end]
    decide
  | succ r ih =>
    intro m x hx hl
    rw [runS]
    by_cases hc : inR 97 122 (T (s + x)) = true
    · rw [if_pos hc]
      have hl' : ∀ i, i < x + 1 → ltr (T (s + i)) := by
        intro i hi
        by_cases hix : i = x
        · subst hix; exact ltr_of hc
        · exact hl i (by omega)
      have ih' := ih m (x + 1) (by omega) hl'
      rw [show s + (x + 1) = s + x + 1 by omega] at ih'
      rw [← ih', show m + (r + 1) + 1 = (m + r + 1) + 1 by omega, fX9_cut_85, nI_add, at9_eq hn h4 (by omega), hT]
      simp only [Option.bind_some]
      rw [letter_eq]
      simp only [Option.bind_some]
      rw [ite_tb, if_pos hc]
      unfold fX9_cut_118
      rw [nI_1]
      by_cases h8 : 8 ≤ x
      · rw [if_pos (l_le (k := 8) (by rfl) h8 (by omega)), show min (x + 1) 8 = min x 8 by omega]
      · rw [if_neg (l_nle (k := 8) (by rfl) (by omega) (by decide)), at9_eq hn h4 (by omega), hT]
        simp only [Option.bind_some]
        rw [show min x 8 = x by omega, more_eq σ (ltr_of hc)]
        simp only [Option.bind_some]
        rw [show min (x + 1) 8 = x + 1 by omega, nmN]
    · rw [if_neg hc, show s + x - s = x by omega, show m + (r + 1) + 1 = (m + (r + 1)) + 1 by omega]
      exact stop (m + (r + 1)) x (by omega) hc
theorem num_loop {r7 : Int32 → PS → Option PS} {n s : Nat} {σ : PS} {T : Nat → Int32} (hn : n ≤ 2000) (h4 : gi σ 132 4 = nI n) (hT : txS (gi σ 134) n = T) : ∀ (r m x : Nat) (v : Int32), s + x + r = n → ∃ v', (runS (inR 48 57) T r (s + x) - s ≤ 4 → v' = vlS T r (s + x) v) ∧ fX9_cut_208 r7 (m + r + 1) (nI s) (nI x) v σ = fX9_cut_261 r7 (nI s) (nI (runS (inR 48 57) T r (s + x) - s)) v' (if runS (inR 48 57) T r (s + x) - s ≤ 4 then 2 else 3) σ := by
  have stop : ∀ (m x : Nat) (v : Int32), s + x ≤ n → ¬ inR 48 57 (T (s + x)) = true → fX9_cut_208 r7 (m + 1) (nI s) (nI x) v σ = fX9_cut_261 r7 (nI s) (nI x) v (if x ≤ 4 then 2 else 3) σ := by
    intro m x v hx hl
    rw [fX9_cut_208, nI_add, at9_eq hn h4 (by omega), hT]
    simp only [Option.bind_some]
    rw [digit_eq]
    simp only [Option.bind_some]
    rw [ite_tb, if_neg hl]
    by_cases h8 : x ≤ 4
    · rw [if_pos (r_le (k := 4) (by rfl) h8 (by decide)), if_pos h8]
    · rw [if_neg (r_nle (k := 4) (by rfl) (by omega) (by omega)), if_neg h8]
  intro r
  induction r with
  | zero =>
    intro m x v hx
    rw [runS, show s + x - s = x by omega]
    refine ⟨v, fun _ => rfl, stop m x v (by omega) ?_⟩
    rw [show s + x = n by omega, ← hT, tx_end]
    decide
  | succ r ih =>
    intro m x v hx
    rw [runS, vlS]
    by_cases hc : inR 48 57 (T (s + x)) = true
    · rw [if_pos hc, if_pos hc]
      have hle := runS_le (P := inR 48 57) (T := T) (r := r) (p := s + x + 1)
      by_cases h8 : 4 ≤ x
      · obtain ⟨v', h1, h2⟩ := ih m (x + 1) v (by omega)
        rw [show s + (x + 1) = s + x + 1 by omega] at h1 h2
        refine ⟨v', fun z => by omega, ?_⟩
        rw [← h2, show m + (r + 1) + 1 = (m + r + 1) + 1 by omega, fX9_cut_208, nI_add, at9_eq hn h4 (by omega), hT]
        simp only [Option.bind_some]
        rw [digit_eq]
        simp only [Option.bind_some]
        rw [ite_tb, if_pos hc, if_pos (l_le (k := 4) (by rfl) h8 (by omega))]
        unfold fX9_cut_244
        rw [nI_1]
      · obtain ⟨v', h1, h2⟩ := ih m (x + 1) (v * 10 + T (s + x) - 48) (by omega)
        rw [show s + (x + 1) = s + x + 1 by omega] at h1 h2
        refine ⟨v', h1, ?_⟩
        rw [← h2, show m + (r + 1) + 1 = (m + r + 1) + 1 by omega, fX9_cut_208, nI_add, at9_eq hn h4 (by omega), hT]
        simp only [Option.bind_some]
        rw [digit_eq]
        simp only [Option.bind_some]
        rw [ite_tb, if_pos hc, if_neg (l_nle (k := 4) (by rfl) (by omega) (by decide)), at9_eq hn h4 (by omega), hT]
        simp only [Option.bind_some]
        unfold fX9_cut_244
        rw [nI_1, Int32.mul_comm 10 v]
    · rw [if_neg hc, if_neg hc, show s + x - s = x by omega, show m + (r + 1) + 1 = (m + (r + 1)) + 1 by omega]
      exact ⟨v, fun _ => rfl, stop (m + (r + 1)) x v (by omega) hc⟩
