/-! the reference's inns, tables and days -/
theorem hoS_nm {e : TB} {nc i : Nat} {D : TB} {k c : Nat} (h : c ∉ ordS D i nc) (hk : k ≠ 7) : hoS e nc D i k c = D k c := by
  unfold hoS
  have h' : c ∉ (ordS D i nc).reverse := fun q => h (List.mem_reverse.mp q)
  by_cases h2 : k = 2
  · rw [if_pos h2, fdF_nm h', h2]
  · rw [if_neg h2, if_neg (by omega), rmF_nm h']
theorem hosS_at {e : TB} {nc : Nat} {D : TB} {k c : Nat} (hk : k ≠ 7) : ∀ {n : Nat}, n < 2 ^ 31 → (∀ i, i < n → D 0 c ≠ nI i) → hosS e nc D n k c = D k c := by
  intro n
  induction n with
  | zero => intro _ _; rfl
  | succ n ih =>
    intro hn h
    show hoS e nc (hosS e nc D n) n k c = _
    rw [hoS_nm (fun q => ?_) hk, ih (by omega) (fun i hi => h i (by omega))]
    have := (mem_ordS.mp q).2
    rw [hosS_ne (by omega)] at this
    exact h n (by omega) this
/-- what the inns' evenings may change -/
def iF (d : Nat) (σ τ : PS) : Prop := ∀ k j, k ≠ 183 → k ≠ 184 → ¬ (187 ≤ k ∧ k ≤ 192) → (k = 173 ∨ k = 177 ∨ k = 179 → j % 60 ≠ d) → gi τ k j = gi σ k j
theorem iF.rf {d : Nat} {σ : PS} : iF d σ σ := fun _ _ _ _ _ _ => rfl
theorem iF.tr {d : Nat} {σ τ υ : PS} (a : iF d σ τ) (b : iF d τ υ) : iF d σ υ := fun k j h1 h2 h3 h4 => (b k j h1 h2 h3 h4).trans (a k j h1 h2 h3 h4)
theorem pvM_fr {d i : Nat} {σ τ : PS} (hd : d < 60) (f : d ≠ 0 → gi τ 179 (60 * i + d - 1) = gi σ 179 (60 * i + d - 1)) : pvM τ d i = pvM σ d i := by
  unfold pvM
  by_cases h : d = 0
  · rw [if_pos h, if_pos h]
  · rw [if_neg h, if_neg h, f h]
theorem m212_ok {e : TB} {l : List RU} {s : Nat} {sh : Nat → Nat → Bool} {d na nc : Nat} {E : TB} {r144 : Int32 → PS → Option PS} {Q : PS → Prop} (hz : ∀ r ∈ l, r.1 = 0 → r.2.1 = 0) (hL : LE e na nc) (hd : d < 60) (hF : ∀ c, c < nc → E 0 c ≠ -1 → E 5 c = sayS l 0 0 (vrS e c (E 2 c) (E 3 c) d (E 0 c))) : ∀ (q m i : Nat) (σ : PS), i + q = na → ME e l s sh σ → (∀ c, c < nc → gi σ 182 c = E 0 c ∧ gi σ 183 c = hosS e nc E i 2 c ∧ gi σ 184 c = hosS e nc E i 3 c) → (∀ c, c < nc → (∃ i', i' < i ∧ E 0 c = nI i') → gi σ 173 (60 * c + d) = hosS e nc E i 1 c ∧ gi σ 177 (60 * c + d) = E 5 c) → (∀ i', i' < i → gi σ 179 (60 * i' + d) = hosS e nc E i 7 i') → (∀ i', i ≤ i' → i' < na → pvM σ d i' = E 7 i') → (∀ τ : PS, iF d σ τ → (∀ c, c < nc → gi τ 182 c = E 0 c ∧ gi τ 183 c = hosS e nc E na 2 c ∧ gi τ 184 c = hosS e nc E na 3 c) → (∀ c, c < nc → (∃ i', i' < na ∧ E 0 c = nI i') → gi τ 173 (60 * c + d) = hosS e nc E na 1 c ∧ gi τ 177 (60 * c + d) = E 5 c) → (∀ i', i' < na → gi τ 179 (60 * i' + d) = hosS e nc E na 7 i') → hO (fX9_goes_234 r144 FU (nI d) 0 τ) Q) → hO (fX9_goes_212 r144 (m + q + 1) (nI d) (nI i) σ) Q := by
  have L1 := hL.1
  have L2 := hL.2.1
  intro q
  induction q with
  | zero =>
    intro m i σ hq hE h1 h2 h3 h4 hk
    have : i = na := by omega
    subst this
    rw [fX9_goes_212, hE.1.1, hL.2.2.1, if_pos (nI_le (Nat.le_refl _) (by omega))]
    exact hk σ iF.rf h1 h2 h3
  | succ q ih =>
    intro m i σ hq hE h1 h2 h3 h4 hk
    have hi : i < na := by omega
    rw [show m + (q + 1) + 1 = (m + q + 1) + 1 by omega, fX9_goes_212, hE.1.1, hL.2.2.1, if_neg (nI_ge hi (by omega)), nI_1]
    have hH0 : ∀ c, hosS e nc E i 0 c = E 0 c := fun c => hosS_ne (by omega)
    have hat : ∀ c k, k ≠ 7 → E 0 c = nI i → hosS e nc E i k c = E k c := fun c k hk h0 => hosS_at hk (by omega) (fun i' hi' q => by
      have := nIeq_lit (q.symm.trans h0) (by omega) (by omega)
      omega)
    have hord : ∀ c, c ∈ ordS (hosS e nc E i) i nc ↔ c < nc ∧ E 0 c = nI i := fun c => by rw [mem_ordS, hH0]
    refine (mev_ok (D := hosS e nc E i) hz hL hi hd (fun c hc h0 => ?_) hE (fun c hc => ?_) (by rw [h4 i (by omega) hi, hosS_ne (by omega)])).then ?_
    · rw [hH0] at h0
      rw [hat c 5 (by decide) h0, hat c 2 (by decide) h0, hat c 3 (by decide) h0, hF c hc (by rw [h0]; exact nI_m1 (by omega)), h0]
    · rw [hH0]; exact h1 c hc
    rintro τ ⟨t1, t2, t3, t4, t5⟩
    have f1 : iF d σ τ := by
      intro k j a b c f
      by_cases hk3 : k = 173 ∨ k = 177
      · have h60 := t4 j (fun c' hc' hj => f (by omega) (by rw [hj]; exact m60 hd))
        rcases hk3 with rfl | rfl
        · exact h60.1
        · exact h60.2
      · exact t5 k j (by omega) (by omega) a b c (fun hk hj => f (by omega) (by rw [hj]; exact m60 hd))
    have f9 : ∀ i', i' ≠ i → ∀ j, j ≠ 60 * i + d → gi τ 179 j = gi σ 179 j := fun i' hi' j hj => t5 179 j (by decide) (by decide) (by decide) (by decide) (by decide) (fun _ => hj)
    refine ih m (i + 1) τ (by omega) (ME_fr hE (fun k hk j => f1 k j (by omega) (by omega) (by omega) (by omega))) (fun c hc => ?_) (fun c hc hex => ?_) (fun i' hi' => ?_) (fun i' a b => ?_) (fun ω w1 w2 w3 w4 => hk ω (f1.tr w1) w2 w3 w4)
    · refine ⟨?_, (t1 c hc).1, (t1 c hc).2⟩
      rw [f1 182 c (by decide) (by decide) (by decide) (by omega)]
      exact (h1 c hc).1
    · by_cases h0 : E 0 c = nI i
      · have := t3 c ((hord c).mpr ⟨hc, h0⟩)
        refine ⟨this.1, ?_⟩
        rw [this.2, hat c 5 (by decide) h0]
      · have hn : c ∉ ordS (hosS e nc E i) i nc := fun q => h0 ((hord c).mp q).2
        have hex' : ∃ i', i' < i ∧ E 0 c = nI i' := by
          obtain ⟨i', hi', h'⟩ := hex
          refine ⟨i', ?_, h'⟩
          by_cases hii : i' = i
          · rw [hii] at h'; exact absurd h' h0
          · omega
        have h60 := t4 (60 * c + d) (fun c' hc' hj => by
          have : c' = c := by omega
          rw [this] at hc'
          exact hn hc')
        rw [h60.1, h60.2]
        show _ = hoS e nc (hosS e nc E i) i 1 c ∧ _
        rw [hoS_nm hn (by decide)]
        exact h2 c hc hex'
    · by_cases hii : i' = i
      · subst hii; exact t2
      · rw [f9 i' hii _ (by omega)]
        show _ = hoS e nc (hosS e nc E i) i 7 i'
        rw [hoS_ne (by omega)]
        exact h3 i' (by omega)
    · rw [pvM_fr (σ := σ) hd (fun h0 => f9 i' (by omega) _ (by omega))]
      exact h4 i' (by omega) b
/-! tables -/
def tF (d : Nat) (σ τ : PS) : Prop := ∀ k j, k ≠ 182 → (172 ≤ k → k ≤ 177 → j % 60 ≠ d) → gi τ k j = gi σ k j
theorem m234_ok {e : TB} {l : List RU} {s : Nat} {sh : Nat → Nat → Bool} {d na nc : Nat} {D : TB} {r144 : Int32 → PS → Option PS} {Q : PS → Prop} (hL : LE e na nc) (hd : d < 60) (hgone : ∀ c, c < nc → D 0 c = -1 → D 1 c = -1 ∧ D 5 c = 0) : ∀ (q m c : Nat) (σ : PS), c + q = nc → ME e l s sh σ → (∀ c', c' < nc → gi σ 182 c' = (if c' < c then wkS e D c' else D 0 c') ∧ gi σ 183 c' = D 2 c' ∧ gi σ 184 c' = D 3 c' ∧ gi σ 185 c' = D 4 c') → (∀ c', c' < nc → c ≤ c' → D 0 c' ≠ -1 → gi σ 173 (60 * c' + d) = D 1 c' ∧ gi σ 177 (60 * c' + d) = D 5 c') → (∀ c', c' < c → gi σ 172 (60 * c' + d) = D 0 c' ∧ gi σ 173 (60 * c' + d) = D 1 c' ∧ gi σ 174 (60 * c' + d) = D 2 c' ∧ gi σ 175 (60 * c' + d) = D 3 c' ∧ gi σ 176 (60 * c' + d) = D 4 c' ∧ gi σ 177 (60 * c' + d) = D 5 c') → (∀ τ : PS, tF d σ τ → (∀ c', c' < nc → gi τ 182 c' = wkS e D c') → (∀ c', c' < nc → gi τ 172 (60 * c' + d) = D 0 c' ∧ gi τ 173 (60 * c' + d) = D 1 c' ∧ gi τ 174 (60 * c' + d) = D 2 c' ∧ gi τ 175 (60 * c' + d) = D 3 c' ∧ gi τ 176 (60 * c' + d) = D 4 c' ∧ gi τ 177 (60 * c' + d) = D 5 c') → hO (fX9_goes_361 r144 FU (nI d) 0 τ) Q) → hO (fX9_goes_234 r144 (m + q + 1) (nI d) (nI c) σ) Q := by
  have L1 := hL.1
  have L2 := hL.2.1
  intro q
  induction q with
  | zero =>
    intro m c σ hq hE h1 h2 h3 hk
    have : c = nc := by omega
    subst this
    rw [fX9_goes_234, hE.1.2, hL.2.2.2.1, if_pos (nI_le (Nat.le_refl _) (by omega))]
    exact hk σ (fun _ _ _ _ => rfl) (fun c' hc' => by have := (h1 c' hc').1; rw [if_pos hc'] at this; exact this) h3
  | succ q ih =>
    intro m c σ hq hE h1 h2 h3 hk
    have hc : c < nc := by omega
    obtain ⟨a1, a2, a3, a4⟩ := h1 c hc
    rw [if_neg (by omega)] at a1
    have E := hE.2.1 c
    rw [show m + (q + 1) + 1 = (m + q + 1) + 1 by omega, fX9_goes_234, hE.1.2, hL.2.2.2.1, if_neg (nI_ge hc (by omega)), nI60]
    unfold fX9_goes_328 fX9_goes_353
    simp only [gd_t (inb_nI (show c < 6 by omega) (show 6 < 2 ^ 31 by decide)), gd_t (inb_nI (show 60 * c + d < 360 by omega) (show 360 < 2 ^ 31 by decide)), nI_clamp (n := c) (show c < 2 ^ 31 by omega), nI_clamp (n := 60 * c + d) (show 60 * c + d < 2 ^ 31 by omega)]
    simp (disch := decide) only [gi_ne]
    rw [a1, a2, a3, a4, E.2.2.2.2.2.2.2.2.1, nI_1]
    -- behind the tables
    have go : ∀ τ : PS, tF d σ τ → (∀ j, j ≠ c → gi τ 182 j = gi σ 182 j) → gi τ 182 c = D 0 c → (∀ k j, j ≠ 60 * c + d → k ≠ 182 → gi τ k j = gi σ k j) → (gi τ 172 (60 * c + d) = D 0 c ∧ gi τ 173 (60 * c + d) = D 1 c ∧ gi τ 174 (60 * c + d) = D 2 c ∧ gi τ 175 (60 * c + d) = D 3 c ∧ gi τ 176 (60 * c + d) = D 4 c ∧ gi τ 177 (60 * c + d) = D 5 c) → hO (if D 0 c = e 21 c then fX9_goes_234 r144 (m + q + 1) (nI d) (nI (c + 1)) (sI τ 182 c (-1)) else fX9_goes_234 r144 (m + q + 1) (nI d) (nI (c + 1)) τ) Q := by
      intro τ t1 t2 t3 t4 t5
      have rest : ∀ υ : PS, (∀ k j, (k = 182 → j ≠ c) → gi υ k j = gi τ k j) → gi υ 182 c = wkS e D c → hO (fX9_goes_234 r144 (m + q + 1) (nI d) (nI (c + 1)) υ) Q := by
        intro υ u1 u2
        have f1 : tF d σ υ := fun k j a b => by rw [u1 k j (by omega)]; exact t1 k j a b
        refine ih m (c + 1) υ (by omega) (ME_fr hE (fun k hk j => f1 k j (by omega) (fun _ _ => by omega))) (fun c' hc' => ?_) (fun c' hc' hcc h0 => ?_) (fun c' hc' => ?_) (fun ω w1 w2 w3 => hk ω (fun k j a b => (w1 k j a b).trans (f1 k j a b)) w2 w3)
        · obtain ⟨b1, b2, b3, b4⟩ := h1 c' hc'
          rw [f1 183 _ (by decide) (fun _ _ => by omega), f1 184 _ (by decide) (fun _ _ => by omega), f1 185 _ (by decide) (fun _ _ => by omega)]
          refine ⟨?_, b2, b3, b4⟩
          by_cases hcc : c' = c
          · subst hcc; rw [if_pos (by omega)]; exact u2
          · rw [u1 182 c' (fun _ => hcc), t2 c' hcc, b1]
            by_cases hlt : c' < c
            · rw [if_pos hlt, if_pos (by omega)]
            · rw [if_neg hlt, if_neg (by omega)]
        · rw [u1 173 _ (by omega), u1 177 _ (by omega), t4 _ _ (by omega) (by decide), t4 _ _ (by omega) (by decide)]
          exact h2 c' hc' (by omega) h0
        · rw [u1 172 _ (by omega), u1 173 _ (by omega), u1 174 _ (by omega), u1 175 _ (by omega), u1 176 _ (by omega), u1 177 _ (by omega)]
          by_cases hcc : c' = c
          · subst hcc; exact t5
          · rw [t4 _ _ (by omega) (by decide), t4 _ _ (by omega) (by decide), t4 _ _ (by omega) (by decide), t4 _ _ (by omega) (by decide), t4 _ _ (by omega) (by decide), t4 _ _ (by omega) (by decide)]
            exact h3 c' (by omega)
      by_cases hg : D 0 c = e 21 c
      · rw [if_pos hg]
        refine rest _ (fun k j h => ?_) ?_
        · by_cases hk : k = 182
          · subst hk; rw [gi_nj (h rfl)]
          · rw [gi_ne hk]
        · rw [gi_eq]; unfold wkS; rw [if_pos hg]
      · rw [if_neg hg]
        refine rest τ (fun _ _ _ => rfl) ?_
        rw [t3]; unfold wkS; rw [if_neg hg]
    -- what the day's tables may change
    have base : ∀ τ : PS, (∀ k j, ¬ (172 ≤ k ∧ k ≤ 177) → gi τ k j = gi σ k j) → (∀ k j, j ≠ 60 * c + d → gi τ k j = gi σ k j) → tF d σ τ := by
      intro τ t1 t2 k j a b
      by_cases hk : 172 ≤ k ∧ k ≤ 177
      · exact t2 k j (fun hj => b hk.1 hk.2 (by rw [hj]; exact m60 hd))
      · exact t1 k j hk
    by_cases h0 : D 0 c = -1
    · rw [if_pos h0]
      obtain ⟨g1, g2⟩ := hgone c hc h0
      have n1 : ∀ k j, ¬ (172 ≤ k ∧ k ≤ 177) → gi (sI (sI (sI (sI (sI (sI σ 172 (60 * c + d) (D 0 c)) 174 (60 * c + d) (D 2 c)) 175 (60 * c + d) (D 3 c)) 176 (60 * c + d) (D 4 c)) 173 (60 * c + d) (-1)) 177 (60 * c + d) 0) k j = gi σ k j := fun k j h => by rw [gi_ne (by omega), gi_ne (by omega), gi_ne (by omega), gi_ne (by omega), gi_ne (by omega), gi_ne (by omega)]
      have n2 : ∀ k j, j ≠ 60 * c + d → gi (sI (sI (sI (sI (sI (sI σ 172 (60 * c + d) (D 0 c)) 174 (60 * c + d) (D 2 c)) 175 (60 * c + d) (D 3 c)) 176 (60 * c + d) (D 4 c)) 173 (60 * c + d) (-1)) 177 (60 * c + d) 0) k j = gi σ k j := fun k j h => by simp only [gi_sI, if_neg h, ite_self]
      refine go _ (base _ n1 n2) (fun j _ => n1 182 j (by omega)) (by rw [n1 182 c (by omega)]; exact a1) (fun k j h _ => n2 k j h) ⟨?_, ?_, ?_, ?_, ?_, ?_⟩
      · rw [gi_ne (by decide), gi_ne (by decide), gi_ne (by decide), gi_ne (by decide), gi_ne (by decide), gi_eq]
      · rw [gi_ne (by decide), gi_eq, g1]
      · rw [gi_ne (by decide), gi_ne (by decide), gi_ne (by decide), gi_ne (by decide), gi_eq]
      · rw [gi_ne (by decide), gi_ne (by decide), gi_ne (by decide), gi_eq]
      · rw [gi_ne (by decide), gi_ne (by decide), gi_eq]
      · rw [gi_eq, g2]
    · rw [if_neg h0]
      obtain ⟨g1, g2⟩ := h2 c hc (Nat.le_refl _) h0
      have n1 : ∀ k j, ¬ (172 ≤ k ∧ k ≤ 177) → gi (sI (sI (sI (sI σ 172 (60 * c + d) (D 0 c)) 174 (60 * c + d) (D 2 c)) 175 (60 * c + d) (D 3 c)) 176 (60 * c + d) (D 4 c)) k j = gi σ k j := fun k j h => by rw [gi_ne (by omega), gi_ne (by omega), gi_ne (by omega), gi_ne (by omega)]
      have n2 : ∀ k j, j ≠ 60 * c + d → gi (sI (sI (sI (sI σ 172 (60 * c + d) (D 0 c)) 174 (60 * c + d) (D 2 c)) 175 (60 * c + d) (D 3 c)) 176 (60 * c + d) (D 4 c)) k j = gi σ k j := fun k j h => by simp only [gi_sI, if_neg h, ite_self]
      refine go _ (base _ n1 n2) (fun j _ => n1 182 j (by omega)) (by rw [n1 182 c (by omega)]; exact a1) (fun k j h _ => n2 k j h) ⟨?_, ?_, ?_, ?_, ?_, ?_⟩
      · rw [gi_ne (by decide), gi_ne (by decide), gi_ne (by decide), gi_eq]
      · rw [gi_ne (by decide), gi_ne (by decide), gi_ne (by decide), gi_ne (by decide)]; exact g1
      · rw [gi_ne (by decide), gi_ne (by decide), gi_eq]
      · rw [gi_ne (by decide), gi_eq]
      · rw [gi_eq]
      · rw [gi_ne (by decide), gi_ne (by decide), gi_ne (by decide), gi_ne (by decide)]; exact g2
theorem m361_ok {d : Nat} {D : TB} {r144 : Int32 → PS → Option PS} {Q : PS → Prop} (hd : d < 60) : ∀ (q m x : Nat) (σ : PS), x + q = 5 → (∀ x', x' < 5 → gi σ 186 x' = D 8 x') → (∀ x', x' < x → gi σ 180 (60 * x' + d) = D 8 x') → (∀ τ : PS, (∀ k j, (k = 180 → j % 60 ≠ d) → gi τ k j = gi σ k j) → (∀ x', x' < 5 → gi τ 180 (60 * x' + d) = D 8 x') → hO (r144 (nI (d + 1)) τ) Q) → hO (fX9_goes_361 r144 (m + q + 1) (nI d) (nI x) σ) Q := by
  intro q
  induction q with
  | zero =>
    intro m x σ hq h1 h2 hk
    have : x = 5 := by omega
    subst this
    rw [fX9_goes_361, if_pos (show (5 : Int32) ≤ nI 5 by decide), nI_1]
    exact hk σ (fun _ _ _ => rfl) h2
  | succ q ih =>
    intro m x σ hq h1 h2 hk
    rw [show m + (q + 1) + 1 = (m + q + 1) + 1 by omega, fX9_goes_361, if_neg (l_nle (k := 5) (by rfl) (by omega) (by decide)), nI60, gd_t (inb_nI (by omega) (by decide)), gd_t (inb_nI (by omega) (by decide)), nI_clamp (by omega), nI_clamp (by omega), h1 x (by omega), nI_1]
    refine ih m (x + 1) _ (by omega) (fun x' hx' => by rw [gi_ne (by decide)]; exact h1 x' hx') (fun x' hx' => ?_) (fun τ t1 t2 => hk τ (fun k j h => ?_) t2)
    · by_cases hxx : x' = x
      · subst hxx; rw [gi_eq]
      · rw [gi_nj (by omega)]; exact h2 x' (by omega)
    · rw [t1 k j h]
      by_cases hk : k = 180
      · subst hk
        rw [gi_nj (fun hj => h rfl (by rw [hj]; exact m60 hd))]
      · rw [gi_ne hk]
