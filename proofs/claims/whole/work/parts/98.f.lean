/-! the whole reading, by the class -/
theorem it_le {c : Prop} [Decidable c] {a b m : Nat} (h1 : a ≤ m) (h2 : b ≤ m) : (if c then a else b) ≤ m := by
  split
  · exact h1
  · exact h2
theorem tkK_le (T : Nat → Int32) (n s : Nat) : tkK T n s ≤ 26 := by
  unfold tkK
  refine it_le (by decide) (it_le (it_le (by decide) ?_) (it_le (it_le (by decide) (by decide)) ?_))
  · unfold wtS
    repeat' (first | decide | refine it_le ?_ ?_)
  · unfold sgK sg1
    repeat' (first | decide | refine it_le ?_ ?_)
def tnS : Nat → Nat
  | 0 => 1
  | j + 1 => 10 * tnS j
theorem vl_bd {T : Nat → Int32} : ∀ (r p i j : Nat) (v : Int32), (∃ a, v = nI a ∧ a < tnS j) → runS (inR 48 57) T r p ≤ p + i → i + j ≤ 4 → ∃ a, vlS T r p v = nI a ∧ a < 10000 := by
  have mono : ∀ j, j ≤ 4 → tnS j ≤ 10000 := by decide
  intro r
  induction r with
  | zero =>
    intro p i j v ⟨a, h1, h2⟩ _ hj
    have := mono j (by omega)
    exact ⟨a, h1, by omega⟩
  | succ r ih =>
    intro p i j v ⟨a, h1, h2⟩ hr hj
    have hm := mono j (by omega)
    rw [vlS]
    rw [runS] at hr
    by_cases hd : inR 48 57 (T p) = true
    · rw [if_pos hd] at hr ⊢
      have hle := runS_le (P := inR 48 57) (T := T) (r := r) (p := p + 1)
      unfold inR at hd
      obtain ⟨x, x1, x2, x3⟩ := (isN_of (l := nI 48) (h := nI 57) rfl rfl (by decide) (by decide)).mp (of_decide_eq_true hd)
      refine ih (p + 1) (i - 1) (j + 1) _ ⟨a * 10 + x - 48, ?_, ?_⟩ (by omega) (by omega)
      · rw [h1, x1, show (10 : Int32) = nI 10 from rfl, nI_mul, nI_add, show (48 : Int32) = nI 48 from rfl, nI_sub (by omega)]
      · show _ < 10 * tnS j
        omega
    · rw [if_neg hd]
      exact ⟨a, h1, by omega⟩
theorem tkV_bd {T : Nat → Int32} {n s : Nat} (h : tkK T n s = 2) : isN (tkV T n s) 0 9999 := by
  have e : tkK T n s = if n ≤ s then 0 else if inR 97 122 (T s) = true then (if 8 < tkE T n s - s then 1 else wtS T s (tkE T n s)) else if inR 48 57 (T s) = true then (if 4 < tkE T n s - s then 1 else 2) else sgK (T s) (T (s + 1)) := rfl
  rw [e] at h
  by_cases h1 : n ≤ s
  · rw [if_pos h1] at h; cases h
  rw [if_neg h1] at h
  by_cases h2 : inR 97 122 (T s) = true
  · rw [if_pos h2] at h
    by_cases h3 : 8 < tkE T n s - s
    · rw [if_pos h3] at h; cases h
    · rw [if_neg h3] at h; exact absurd h (wtS_ne _ _ _)
  rw [if_neg h2] at h
  by_cases h3 : inR 48 57 (T s) = true
  · rw [if_pos h3] at h
    by_cases h4 : 4 < tkE T n s - s
    · rw [if_pos h4] at h; cases h
    · have e2 : tkE T n s = runS (inR 48 57) T (n - s) s := by unfold tkE; rw [if_neg h1, if_neg h2, if_pos h3]
      rw [e2] at h4
      obtain ⟨a, a1, a2⟩ := vl_bd (T := T) (n - s) s 4 0 0 ⟨0, rfl, by decide⟩ (by omega) (by decide)
      exact ⟨a, a1, by omega, by omega⟩
  · rw [if_neg h3] at h; exact absurd h (sgK_ne _ _)
def A0 : QS := ((0, 0), ([], -1), (0, 0, []), ([], true, 0, []), [], [])
theorem A0_wf : wfQ A0 := by
  refine ⟨⟨by decide, by decide, fun r hr => (by cases hr), fun r hr => (by cases hr)⟩, by decide, by decide, by decide, fun _ => rfl, fun q hq => (by cases hq), rfl, trivial, by decide, fun _ => ⟨rfl, rfl, rfl⟩, by omega, by omega, by omega, by omega, fun q hq => (by cases hq), fun _ => rfl, fun h u z => (by cases z), by omega, fun _ => rfl⟩
def parP (b : Nat) (F : FQ) (x : Int32) (τ : PS) : Prop := (F.1 = 0 ∧ x = (if F.2.2.2 = -1 then 0 else 5) ∧ gi τ 38 7 = F.2.2.2 ∧ BKC τ b F.2.2.1 ∧ ∀ r ∈ F.2.2.1, r.1 = 0 → r.2.1 = 0) ∨ (F.1 ≠ 0 ∧ x = nI F.1 ∧ gi τ 38 7 = nI F.2.1)
theorem par_end {b : Nat} (n : Nat) (x2 x3 : Int32) {σ : PS} (h : ¬ x2 = 0 ∨ ¬ gi σ 38 6 = 0) : fX4_parse_9 b (n + 1) x2 x3 σ = fX4_parse_119 b σ := by
  rw [fX4_parse_9]
  by_cases h1 : 400 < x3
  · rw [if_pos h1]
  · rw [if_neg h1]
    by_cases h2 : x2 = 0
    · rw [if_pos h2, if_neg (by rcases h with h | h; exact absurd h2 h; exact h)]
    · rw [if_neg h2]
theorem par_blame {b : Nat} (n : Nat) (x3 : Int32) (k p : Nat) {σ : PS} (hk : k ≠ 0) (hk2 : k ≤ 2) : fX4_parse_9 b (n + 1) 0 x3 (sI (sI σ 38 6 (nI k)) 38 7 (nI p)) = some (nI k, sI (sI σ 38 6 (nI k)) 38 7 (nI p)) := by
  have h : ¬ gi (sI (sI σ 38 6 (nI k)) 38 7 (nI p)) 38 6 = 0 := by
    rw [gi_nj (by decide), gi_eq]
    exact fun z => hk (nIeq_lit z (by omega) (by decide))
  rw [par_end n 0 x3 (Or.inr h)]
  unfold fX4_parse_119
  rw [if_neg h, gi_nj (by decide), gi_eq]
theorem parse_loop {b n : Nat} {f : Nat → Int32} (hb : b = 116 ∨ b = 124) : ∀ (q m t : Nat) (A : QS) (σ : PS), t + q = 401 → t ≤ 400 → wfQ A → CQ b t A σ → scE n σ → txS (gi σ 2) n = txS f n → gi σ 40 1 = nI (psS (txS f n) n t) → hO (fX4_parse_9 b (m + q + 1) 0 (nI t) σ) (fun r => parP b (finR (kdS (txS f n) n) (toS (txS f n) n) (vaS (txS f n) n) t A) r.1 r.2 ∧ frP b σ r.2) := by
  intro q
  induction q with
  | zero => intro m t A σ h1 h2; omega
  | succ q ih =>
    intro m t A σ hq ht hw hC hE hT h1
    rw [show m + (q + 1) + 1 = (m + q + 1) + 1 by omega, fX4_parse_9, if_neg (l_nlt (k := 400) (by rfl) ht (by decide)), if_pos rfl]
    have h6 : gi σ 38 6 = 0 := by
      obtain ⟨⟨aw, pt⟩, ⟨rs, wr⟩, ⟨so, lo, va⟩, ⟨re, cn, op, le⟩, it, wt⟩ := A
      obtain ⟨c, h⟩ := hC
      exact h.2.2.2.1
    rw [if_pos h6]
    have ad := adv_ok hE (ps_le t).1 (by rw [h1])
    rw [hT] at ad
    refine hO.then ad (fun τ h => ?_)
    unfold adP at h
    rw [hT] at h
    obtain ⟨g1, g2, g3, g4, g5⟩ := h
    have hE' : scE n τ := ⟨hE.1, by rw [g1.1 1 1 (by intro z; cases z)]; exact hE.2⟩
    have fr : frP b σ τ := ⟨fun k j q1 q2 q3 _ => g1.1 k j (fun z => absurd z q3), g1.2⟩
    have hC' : CQ b t A τ := by
      obtain ⟨⟨aw, pt⟩, ⟨rs, wr⟩, ⟨so, lo, va⟩, ⟨re, cn, op, le⟩, it, wt⟩ := A
      obtain ⟨c, h⟩ := hC
      have g : ∀ k j, k ≠ 40 → gi τ k j = gi σ k j := fun k j z => g1.1 k j (fun y => absurd y z)
      exact ⟨c, h.set (fun z => z) (by rw [g _ _ (by decide)]; exact h.1) (fun z => by rw [g _ _ (by decide)]; exact h.2.1 z) (by rw [g _ _ (by decide)]; exact h.2.2.1) (by rw [g _ _ (by decide)]; exact h.2.2.2.2.2.1) (g _ _ (by decide)) (g _ _ (by decide)) (g _ _ (by decide)) (fun k j hk => g k j (by omega))⟩
    have eK : tkK (txS f n) n (skS (txS f n) n (psS (txS f n) n t)) = kdS (txS f n) n t := rfl
    have eP : skS (txS f n) n (psS (txS f n) n t) = toS (txS f n) n t := rfl
    have eV : tkV (txS f n) n (skS (txS f n) n (psS (txS f n) n t)) = vaS (txS f n) n t := rfl
    rw [eK] at g4 g5
    rw [eV] at g5
    rw [eP] at g3
    have hk := tkK_le (txS f n) n (toS (txS f n) n t)
    have hk' : kdS (txS f n) n t ≤ 26 := hk
    rw [g4, may_eq hC' hw hk']
    simp only [Option.bind_some]
    rw [ite_tb, g4, g3]
    have bl : ∀ k, k ≠ 0 → k ≤ 2 → finR (kdS (txS f n) n) (toS (txS f n) n) (vaS (txS f n) n) t A = (k, toS (txS f n) n t, [], -1) → hO ((fX4_blame (nI k) (nI (toS (txS f n) n t)) τ).bind (fun σ17 => fX4_parse_113 b (fX4_parse_9 b (m + q + 1)) 0 (nI t) σ17)) (fun r => parP b (finR (kdS (txS f n) n) (toS (txS f n) n) (vaS (txS f n) n) t A) r.1 r.2 ∧ frP b σ r.2) := by
      intro k k1 k2 hf
      show hO (fX4_parse_9 b (m + q + 1) 0 (nI t + 1) (sI (sI τ 38 6 (nI k)) 38 7 (nI (toS (txS f n) n t)))) _
      rw [par_blame (m + q) _ k _ k1 k2, hf]
      exact ⟨_, rfl, Or.inr ⟨k1, rfl, gi_eq⟩, (fr.i (by omega)).i (by omega)⟩
    by_cases hm : mayS A (kdS (txS f n) n t) = true
    · rw [if_pos hm]
      by_cases h0 : kdS (txS f n) n t = 0
      · rw [if_pos (by rw [h0]; rfl), fin_end ht hm h0]
        show hO (fX4_parse_9 b (m + q + 1) 1 (nI t + 1) τ) _
        rw [par_end (m + q) 1 _ (Or.inl (by decide))]
        obtain ⟨⟨aw, pt⟩, ⟨rs, wr⟩, ⟨so, lo, va⟩, ⟨re, cn, op, le⟩, it, wt⟩ := A
        obtain ⟨⟨r1, r0, r2, r3⟩, _⟩ := hw
        obtain ⟨c, c1, c2, c3, c4, c5, c6, c7, c8, c9, d1, d2, d3, d4⟩ := hC'
        have bk : ∀ υ, (∀ k j, k ≠ 38 → gi υ k j = gi τ k j) → BKC υ b rs := fun υ hu => ⟨r1, by rw [hu _ _ (by omega)]; exact c8, bkR_fr (fun i _ j => hu _ _ (by omega)) (bkP_R (by omega) c9), r2⟩
        unfold fX4_parse_119
        rw [c4, c6, if_pos rfl]
        by_cases hwr : wr = -1
        · rw [if_pos hwr]
          refine ⟨_, rfl, Or.inl ⟨rfl, ?_, ?_, bk τ (fun _ _ _ => rfl), r3⟩, fr⟩
          · show 0 = if wr = -1 then 0 else 5
            rw [if_pos hwr]
          · show gi τ 38 7 = wr
            rw [hwr]; exact c5
        · rw [if_neg hwr]
          refine ⟨_, rfl, Or.inl ⟨rfl, ?_, gi_eq, bk _ (fun k j z => by rw [gi_ne z, gi_ne z]), r3⟩, (fr.i (by omega)).i (by omega)⟩
          show gi (sI (sI τ 38 6 5) 38 7 wr) 38 6 = if wr = -1 then 0 else 5
          rw [gi_nj (by decide), gi_eq, if_neg hwr]
      · rw [if_neg (e_ne (k := 0) (by rfl) h0 (by omega) (by decide))]
        by_cases h4 : t = 400
        · rw [if_pos (by rw [h4]; rfl)]
          unfold fX4_parse_93
          rw [g3]
          exact bl 2 (by decide) (by decide) (fin_too ht hm h0 (Or.inl h4))
        · rw [if_neg (e_ne (k := 400) (by rfl) h4 (by omega) (by decide)), too_eq hC' hw hk' g4]
          simp only [Option.bind_some]
          rw [ite_tb]
          by_cases hto : tooS A (kdS (txS f n) n t) = true
          · rw [if_pos hto]
            unfold fX4_parse_93
            rw [g3]
            exact bl 2 (by decide) (by decide) (fin_too ht hm h0 (Or.inr hto))
          · rw [if_neg hto]
            refine hO.then (take_ok hb (by omega) hC' hw hm h0 hto hk' g4 g3 g5) (fun υ u => ?_)
            show hO (fX4_parse_9 b (m + q + 1) 0 (nI t + 1) υ) _
            rw [nI_1, fin_go (by omega) hm h0 hto]
            refine (ih m (t + 1) _ υ (by omega) (by omega) (wfQ_take hw hm h0 hto (fun z => tkV_bd z)) u.1 ⟨hE.1, ?_⟩ ?_ ?_).mono (fun r z => ⟨z.1, (fr.tr u.2.1).tr z.2⟩)
            · rw [u.2.1.1 1 1 (by decide) (by decide) (by decide) (by omega)]; exact hE'.2
            · rw [← hT]
              funext p
              unfold txS
              rw [u.2.1.1 2 p (by decide) (by decide) (by decide) (by omega), g1.1 2 p (by intro z; cases z)]
            · rw [u.2.2 1, g2]; rfl
    · rw [if_neg hm]
      exact bl 1 (by decide) (by decide) (fin_no ht hm)
theorem parse_ok {b n : Nat} {σ : PS} (hb : b = 116 ∨ b = 124) (hE : scE n σ) : hO (fX4_parse b σ) (fun r => parP b (finR (kdS (txS (gi σ 2) n) n) (toS (txS (gi σ 2) n) n) (vaS (txS (gi σ 2) n) n) 0 A0) r.1 r.2 ∧ frP b σ r.2) := by
  unfold fX4_parse fX4_begin fX6_rewind fX5_clear
  simp only [Option.bind_some]
  generalize hτ : sI (sI (sI (sI (sI (sI (sI (sI (sI (sI σ 40 1 0) b 7 0) b 8 0) 38 2 0) 38 3 0) 38 4 0) 38 5 0) 38 6 0) 38 7 (-1)) 38 8 (-1) = τ
  have fr : frP b σ τ := by
    rw [← hτ]
    exact (((((((((frP.rf.i (by omega)).i (by omega)).i (by omega)).i (by omega)).i (by omega)).i (by omega)).i (by omega)).i (by omega)).i (by omega)).i (by omega)
  have hq : CQ b 0 A0 τ := by
    refine ⟨0, ?_, ?_, ?_, ?_, ?_, ?_, ⟨?_, trivial⟩, ?_, trivial, ?_, by decide, trivial, fun z => absurd rfl z⟩
    · rw [← hτ]; simp (disch := omega) only [gi_ne, gi_nj, gi_eq]; rfl
    · intro z; exact absurd rfl z
    · rw [← hτ]; simp (disch := omega) only [gi_ne, gi_nj, gi_eq]; rfl
    · rw [← hτ]; simp (disch := omega) only [gi_ne, gi_nj, gi_eq]
    · rw [← hτ]; simp (disch := omega) only [gi_ne, gi_nj, gi_eq]
    · rw [← hτ]; simp (disch := omega) only [gi_ne, gi_nj, gi_eq]
    · rw [← hτ]; simp (disch := omega) only [gi_ne, gi_nj, gi_eq]; rfl
    · rw [← hτ]; simp (disch := omega) only [gi_ne, gi_nj, gi_eq]; rfl
    · rw [← hτ]; simp (disch := omega) only [gi_ne, gi_nj, gi_eq]; rfl
  obtain ⟨m, hm⟩ := FU_k 402 (by decide)
  rw [hm, show m + 402 = m + 401 + 1 by omega]
  refine (parse_loop (f := gi σ 2) hb 401 m 0 A0 τ rfl (by decide) A0_wf hq ⟨hE.1, ?_⟩ ?_ ?_).mono (fun r z => ⟨z.1, fr.tr z.2⟩)
  · rw [fr.1 1 1 (by decide) (by decide) (by decide) (by omega)]; exact hE.2
  · funext p
    unfold txS
    rw [fr.1 2 p (by decide) (by decide) (by decide) (by omega)]
  · rw [← hτ]; simp (disch := omega) only [gi_ne, gi_nj, gi_eq]; rfl
