/-! the reference's cut -/
theorem sk_bl {T : Nat → Int32} {n p : Nat} (hp : p < n) (h : blK (T p) = true) : skS T n p = skS T n (p + 1) := by
  unfold skS
  rw [show n - p = (n - (p + 1)) + 1 by omega, runS, if_pos h]
theorem sk_nb {T : Nat → Int32} {n p : Nat} (h : ¬ blK (T p) = true ∨ n ≤ p) : skS T n p = p := by
  unfold skS
  by_cases hp : p < n
  · rw [show n - p = (n - (p + 1)) + 1 by omega, runS, if_neg (by rcases h with h | h; exact h; omega)]
  · rw [show n - p = 0 by omega, runS]
theorem sgN_le {x y : Int32} : 1 ≤ sgN x y ∧ sgN x y ≤ 2 ∧ (y ≠ 61 → sgN x y = 1) := by
  unfold sgN
  by_cases h : y = 61
  · rw [if_pos h]
    refine ⟨?_, ?_, fun z => absurd h z⟩
    · repeat' split
      all_goals omega
    · repeat' split
      all_goals omega
  · rw [if_neg h]; exact ⟨by omega, by omega, fun _ => rfl⟩
theorem tkE_gt {f : Nat → Int32} {n s : Nat} (h : s < n) : s < tkE (txS f n) n s ∧ tkE (txS f n) n s ≤ n := by
  have run : ∀ P : Int32 → Bool, P (txS f n s) = true → s < runS P (txS f n) (n - s) s ∧ runS P (txS f n) (n - s) s ≤ n := by
    intro P hP
    rw [show n - s = (n - s - 1) + 1 by omega, runS, if_pos hP]
    have := runS_le (P := P) (T := txS f n) (r := n - s - 1) (p := s + 1)
    omega
  unfold tkE
  rw [if_neg (by omega)]
  by_cases h1 : inR 97 122 (txS f n s) = true
  · rw [if_pos h1]; exact run _ h1
  rw [if_neg h1]
  by_cases h2 : inR 48 57 (txS f n s) = true
  · rw [if_pos h2]; exact run _ h2
  rw [if_neg h2]
  have h3 := sgN_le (x := txS f n s) (y := txS f n (s + 1))
  by_cases h4 : s + 1 < n
  · omega
  · have : txS f n (s + 1) = 0 := if_neg h4
    have := h3.2.2 (by rw [this]; decide)
    omega
theorem ps_le {f : Nat → Int32} {n : Nat} : ∀ i, psS (txS f n) n i ≤ n ∧ toS (txS f n) n i ≤ n := by
  have sk : ∀ p, p ≤ n → skS (txS f n) n p ≤ n := by
    intro p hp
    have := runS_le (P := blK) (T := txS f n) (r := n - p) (p := p)
    unfold skS
    omega
  intro i
  induction i with
  | zero => exact ⟨Nat.zero_le _, sk 0 (Nat.zero_le _)⟩
  | succ i ih =>
    have h : psS (txS f n) n (i + 1) ≤ n := by
      show tkE (txS f n) n (toS (txS f n) n i) ≤ n
      by_cases hc : toS (txS f n) n i < n
      · exact (tkE_gt hc).2
      · unfold tkE; rw [if_pos (by omega)]; exact ih.2
    exact ⟨h, sk _ h⟩
theorem cut_loop {f : Nat → Int32} {n : Nat} {σ : PS} (hn : n ≤ 2000) : ∀ (q m p c : Nat) (τ : PS), n ≤ p + q → p ≤ n → c ≤ 401 → skS (txS f n) n p = toS (txS f n) n c → cuI (txS f n) n c σ τ → hO (fX9_cut_7 (m + q + 1) (nI p) τ) (cuR (txS f n) n σ) := by
  have full : ∀ (m p : Nat) (τ : PS), cuI (txS f n) n 401 σ τ → hO (fX9_cut_7 (m + 1) (nI p) τ) (cuR (txS f n) n σ) := by
    intro m p τ hI
    rw [fX9_cut_7, hI.2.2.1, if_pos (l_lt (k := 400) (by rfl) (by decide) (by decide))]
    exact ⟨τ, rfl, hI.1, 401, Nat.le_refl _, hI.2.2.2.2.2, Or.inl rfl⟩
  intro q
  induction q with
  | zero =>
    intro m p c τ hq hp hc hs hI
    by_cases h401 : c = 401
    · subst h401; exact full m p τ hI
    have hpn : p = n := by omega
    subst hpn
    rw [fX9_cut_7, hI.2.2.1, if_neg (l_nlt (k := 400) (by rfl) (by omega) (by decide)), at9_eq hn hI.2.1 (by omega)]
    simp only [Option.bind_some]
    rw [hI.2.1, if_neg (nI_nlt (Nat.le_refl _) (by omega)), token_eq _ _ _ _ (by omega) hI.2.2.1]
    simp only [Option.bind_some]
    have hsp : toS (txS f p) p c = p := by rw [← hs]; exact sk_nb (Or.inr (Nat.le_refl _))
    have hk : kdS (txS f p) p c = 0 := by unfold kdS tkK; rw [hsp, if_pos (Nat.le_refl _)]
    have h2 := hI.tk (a1 := 0) (a2 := nI p) (a3 := 0) (a4 := 0) (by rw [hk]; exact Or.inr ⟨by decide, by decide⟩) (by rw [hsp]) (by rw [hk]; intro z; cases z)
    exact ⟨_, rfl, h2.1, c + 1, by omega, h2.2.2.2.2.2, Or.inr ⟨by omega, by rw [show c + 1 - 1 = c by omega]; exact hk⟩⟩
  | succ q ih =>
    intro m p c τ hq hp hc hs hI
    by_cases h401 : c = 401
    · subst h401; exact full (m + (q + 1)) p τ hI
    by_cases hpn : p = n
    · have := ih (m + 1) p c τ (by omega) hp hc hs hI
      rw [show m + 1 + q + 1 = m + (q + 1) + 1 by omega] at this
      exact this
    have hlt : p < n := by omega
    have hT := hI.2.2.2.1
    have nxt : ∀ (e : Nat) (υ : PS), tkE (txS f n) n p = e → toS (txS f n) n c = p → cuI (txS f n) n (c + 1) σ υ → hO (fX9_cut_7 (m + (q + 1)) (nI e) υ) (cuR (txS f n) n σ) := by
      intro e υ he hc2 hI2
      have hg := tkE_gt (f := f) hlt
      rw [he] at hg
      refine ih m e (c + 1) υ (by omega) hg.2 (by omega) ?_ hI2
      rw [← he, ← hc2]
      rfl
    rw [fX9_cut_7, hI.2.2.1, if_neg (l_nlt (k := 400) (by rfl) (by omega) (by decide)), at9_eq hn hI.2.1 (by omega), hT]
    simp only [Option.bind_some]
    rw [hI.2.1, if_pos (nI_lt hlt (by omega))]
    by_cases hb : blK (txS f n p) = true
    · have go : hO (fX9_cut_67 (fX9_cut_7 (m + (q + 1))) (nI p) τ) (cuR (txS f n) n σ) := by
        unfold fX9_cut_67 fX9_cut_291
        rw [nI_1]
        exact ih m (p + 1) c τ (by omega) (by omega) hc (by rw [← sk_bl hlt hb]; exact hs) hI
      by_cases b1 : txS f n p = 9
      · rw [if_pos b1]; exact go
      by_cases b2 : txS f n p = 10
      · rw [if_neg b1, if_pos b2]; exact go
      by_cases b3 : txS f n p = 13
      · rw [if_neg b1, if_neg b2, if_pos b3]; exact go
      by_cases b4 : txS f n p = 32
      · rw [if_neg b1, if_neg b2, if_neg b3, if_pos b4]; exact go
      rcases (bl_nl hb).2.2 with z | z | z | z
      · exact absurd z b1
      · exact absurd z b2
      · exact absurd z b3
      · exact absurd z b4
    · have nb : ∀ x : Int32, blK x = true → ¬ txS f n p = x := fun x hx z => hb (by rw [z]; exact hx)
      rw [if_neg (nb 9 (by decide)), if_neg (nb 10 (by decide)), if_neg (nb 13 (by decide)), if_neg (nb 32 (by decide)), letter_eq]
      simp only [Option.bind_some]
      rw [ite_tb]
      have hsp : toS (txS f n) n c = p := by rw [← hs]; exact sk_nb (Or.inl hb)
      have hg := tkE_gt (f := f) hlt
      by_cases hl : inR 97 122 (txS f n p) = true
      · rw [if_pos hl]
        have he : tkE (txS f n) n p = runS (inR 97 122) (txS f n) (n - p) p := by unfold tkE; rw [if_neg (by omega), if_pos hl]
        have hk : kdS (txS f n) n c = if 8 < tkE (txS f n) n p - p then 1 else wtS (txS f n) p (tkE (txS f n) n p) := by
          have : kdS (txS f n) n c = if n ≤ toS (txS f n) n c then 0 else if inR 97 122 (txS f n (toS (txS f n) n c)) = true then (if 8 < tkE (txS f n) n (toS (txS f n) n c) - toS (txS f n) n c then 1 else wtS (txS f n) (toS (txS f n) n c) (tkE (txS f n) n (toS (txS f n) n c))) else if inR 48 57 (txS f n (toS (txS f n) n c)) = true then (if 4 < tkE (txS f n) n (toS (txS f n) n c) - toS (txS f n) n c then 1 else 2) else sgK (txS f n (toS (txS f n) n c)) (txS f n (toS (txS f n) n c + 1)) := rfl
          rw [this, hsp, if_neg (by omega), if_pos hl]
        obtain ⟨m2, hm2⟩ := FU_k (n - p + 1) (by omega)
        have hlp := nam_loop (r7 := fX9_cut_7 (m + (q + 1))) (s := p) hn hI.2.1 hT (n - p) m2 0 (by omega) (fun i hi => by omega)
        rw [Nat.add_zero p, ← he] at hlp
        rw [hm2, show m2 + (n - p + 1) = m2 + (n - p) + 1 by omega]
        refine (show hO (fX9_cut_85 (fX9_cut_7 (m + (q + 1))) (m2 + (n - p) + 1) (nI p) (nI 0) (Int64.ofNat (nmN (txS f n) p (min 0 8))) τ) _ from ?_)
        rw [hlp]
        generalize hE : tkE (txS f n) n p = e at hk hg he
        have hlet : ∀ i, i < e - p → ltr (txS f n (p + i)) := fun i hi => ltr_of (runS_all (P := inR 97 122) (r := n - p) (p := p) (by omega) (by rw [← he]; omega))
        have fin : ∀ (N : Int64) (x : Int32), RK (kdS (txS f n) n c) x → hO (fX9_cut_179 (fX9_cut_7 (m + (q + 1))) (nI p) (nI (e - p)) N x τ) (cuR (txS f n) n σ) := by
          intro N x hx
          unfold fX9_cut_179 fX9_cut_291
          rw [token_eq _ _ _ _ (by omega) hI.2.2.1]
          simp only [Option.bind_some]
          rw [nI_add, show p + (e - p) = e by omega]
          refine nxt e _ hE hsp (hI.tk hx (by rw [hsp]) (fun z => ?_))
          exfalso
          rw [hk] at z
          exact it_ne (by decide) (wtS_ne _ _ _) z
        unfold fX9_cut_135
        by_cases h7 : 7 < e - p
        · rw [if_pos (l_lt (k := 7) (by rfl) h7 (by omega))]
          refine fin _ _ ?_
          have hk1 : kdS (txS f n) n c = 1 := by
            rw [hk]
            by_cases h8 : 8 < e - p
            · rw [if_pos h8]
            · rw [if_neg h8]
              have no : ∀ k q, q ≤ 6 → ¬ wdC (txS f n) p e k q = true := by
                intro k q hq z
                unfold wdC at z
                rw [Bool.and_eq_true, decide_eq_true_iff] at z
                omega
              unfold wtS
              rw [if_neg (no _ _ (by decide)), if_neg (no _ _ (by decide)), if_neg (no _ _ (by decide)), if_neg (no _ _ (by decide)), if_neg (no _ _ (by decide)), if_neg (no _ _ (by decide)), if_neg (no _ _ (by decide)), if_neg (no _ _ (by decide)), if_neg (no _ _ (by decide)), if_neg (no _ _ (by decide)), if_neg (no _ _ (by decide)), if_neg (no _ _ (by decide)), if_neg (no _ _ (by decide)), if_neg (no _ _ (by decide))]
          rw [hk1]
          refine Or.inl ⟨rfl, ?_⟩
          split
          · exact Or.inl rfl
          · exact Or.inr rfl
        · rw [if_neg (l_nlt (k := 7) (by rfl) (by omega) (by decide)), if_pos (show e - p ≤ 8 by omega), show min (e - p) 8 = e - p by omega]
          obtain ⟨m3, hm3⟩ := FU_k 15 (by decide)
          have hN : nmN (txS f n) p (e - p) < 2 ^ 60 := by
            have h1 := nm_lt hlet
            have h2 : 27 ^ (e - p) ≤ 27 ^ 7 := Nat.pow_le_pow_right (by decide) (by omega)
            have h3 : 27 ^ 7 < 2 ^ 60 := by decide
            omega
          have hkl := key_loop (r7 := fX9_cut_7 (m + (q + 1))) (x1 := nI p) (x3 := nI (e - p)) hI.2.2.2.2.1 hN 14 m3 0 1 (by decide)
          rw [hm3]
          refine (show hO (fX9_cut_146 (fX9_cut_7 (m + (q + 1))) (m3 + 14 + 1) (nI p) (nI (e - p)) (Int64.ofNat (nmN (txS f n) p (e - p))) 1 (nI 0) τ) _ from ?_)
          rw [hkl]
          refine fin _ _ ?_
          rw [hk, if_neg (by omega)]
          exact wt_lp (by omega) hlet (Or.inl rfl)
      · rw [if_neg hl, digit_eq]
        simp only [Option.bind_some]
        rw [ite_tb]
        by_cases hd : inR 48 57 (txS f n p) = true
        · rw [if_pos hd]
          have he : tkE (txS f n) n p = runS (inR 48 57) (txS f n) (n - p) p := by unfold tkE; rw [if_neg (by omega), if_neg hl, if_pos hd]
          have hk : kdS (txS f n) n c = if 4 < tkE (txS f n) n p - p then 1 else 2 := by
            have : kdS (txS f n) n c = if n ≤ toS (txS f n) n c then 0 else if inR 97 122 (txS f n (toS (txS f n) n c)) = true then (if 8 < tkE (txS f n) n (toS (txS f n) n c) - toS (txS f n) n c then 1 else wtS (txS f n) (toS (txS f n) n c) (tkE (txS f n) n (toS (txS f n) n c))) else if inR 48 57 (txS f n (toS (txS f n) n c)) = true then (if 4 < tkE (txS f n) n (toS (txS f n) n c) - toS (txS f n) n c then 1 else 2) else sgK (txS f n (toS (txS f n) n c)) (txS f n (toS (txS f n) n c + 1)) := rfl
            rw [this, hsp, if_neg (by omega), if_neg hl, if_pos hd]
          obtain ⟨m2, hm2⟩ := FU_k (n - p + 1) (by omega)
          obtain ⟨v', hv, hlp⟩ := num_loop (r7 := fX9_cut_7 (m + (q + 1))) (s := p) hn hI.2.1 hT (n - p) m2 0 0 (by omega)
          rw [Nat.add_zero p, ← he] at hlp hv
          rw [hm2, show m2 + (n - p + 1) = m2 + (n - p) + 1 by omega]
          refine (show hO (fX9_cut_208 (fX9_cut_7 (m + (q + 1))) (m2 + (n - p) + 1) (nI p) (nI 0) 0 τ) _ from ?_)
          rw [hlp]
          unfold fX9_cut_261 fX9_cut_291
          rw [token_eq _ _ _ _ (by omega) hI.2.2.1]
          simp only [Option.bind_some]
          rw [nI_add, show p + (tkE (txS f n) n p - p) = tkE (txS f n) n p by omega]
          refine nxt _ _ rfl hsp (hI.tk ?_ (by rw [hsp]) (fun z => ?_))
          · rw [hk]
            by_cases h4 : 4 < tkE (txS f n) n p - p
            · rw [if_pos h4, if_neg (by omega)]; exact Or.inl ⟨rfl, Or.inr rfl⟩
            · rw [if_neg h4, if_pos (by omega)]; exact Or.inr ⟨by decide, by decide⟩
          · rw [hk] at z
            have h4 : ¬ 4 < tkE (txS f n) n p - p := fun h => by rw [if_pos h] at z; cases z
            rw [hv (by omega)]
            unfold vaS tkV
            rw [hsp]
        · rw [if_neg hd, nI_1, at9_eq hn hI.2.1 (by omega), hT]
          simp only [Option.bind_some]
          obtain ⟨a, ha, hsg⟩ := sign9_eq (σ := τ) (c := c) p (txS f n p) (txS f n (p + 1)) (by omega) hI.2.2.1
          rw [hsg]
          simp only [Option.bind_some]
          unfold fX9_cut_291
          rw [nI_add]
          have he : tkE (txS f n) n p = p + sgN (txS f n p) (txS f n (p + 1)) := by unfold tkE; rw [if_neg (by omega), if_neg hl, if_neg hd]
          have hk : kdS (txS f n) n c = sgK (txS f n p) (txS f n (p + 1)) := by unfold kdS tkK; rw [hsp, if_neg (by omega), if_neg hl, if_neg hd]
          exact nxt _ _ he hsp (hI.tk (by rw [hk]; exact ha) (by rw [hsp]) (by rw [hk]; exact fun z => absurd z (sgK_ne _ _)))
