/-! the class's evening, day and walk -/
theorem beS_ne {e : TB} {d c : Nat} {D : TB} {k j : Nat} (h : k ≠ 0 ∨ j ≠ c) : beS e d D c k j = D k j := by
  unfold beS
  split
  · rw [u2_ne (by omega)]
  · rfl
theorem fiS_ne {e : TB} {l : List RU} {d c : Nat} {D : TB} {k j : Nat} (h : k ≠ 5 ∨ j ≠ c) : fiS e l d D c k j = D k j := by
  unfold fiS
  split
  · rfl
  · rw [u2_ne (by omega)]
theorem evS_ne {e : TB} {l : List RU} {d : Nat} {D : TB} {k j : Nat} : ∀ {n : Nat}, ((k ≠ 0 ∧ k ≠ 5) ∨ n ≤ j) → evS e l d D n k j = D k j := by
  intro n
  induction n with
  | zero => intro _; rfl
  | succ n ih =>
    intro h
    show fiS e l d (beS e d (evS e l d D n) n) n k j = _
    rw [fiS_ne (by omega), beS_ne (by omega), ih (by omega)]
theorem evS_DI {e D : TB} {l : List RU} {d na nc : Nat} (hL : LE e na nc) (h : DI D na nc) : ∀ n, n ≤ nc → DI (evS e l d D n) na nc := by
  intro n
  induction n with
  | zero => intro _; exact h
  | succ n ih =>
    intro hn c hc
    show fiS e l d (beS e d (evS e l d D n) n) n 0 c = -1 ∨ ∃ i, i < na ∧ fiS e l d (beS e d (evS e l d D n) n) n 0 c = nI i
    rw [fiS_ne (by omega)]
    by_cases hcn : c = n
    · subst hcn
      unfold beS
      obtain ⟨-, -, -, ⟨f, t, hf, -, hfn, -⟩, -⟩ := hL.2.2.2.2.2 c hc
      split
      · rw [u2_eq, hf]; exact Or.inr ⟨f, hfn, rfl⟩
      · exact ih (by omega) c hc
    · rw [beS_ne (by omega)]
      exact ih (by omega) c hc
theorem hosS_DI {e D : TB} {na nc : Nat} (h : DI D na nc) (n : Nat) : DI (hosS e nc D n) na nc := by
  intro c hc
  rw [hosS_ne (by omega)]
  exact h c hc
theorem rodS_DI {e : TB} {l : List RU} {sh : Nat → Nat → Bool} {na nc : Nat} (hL : LE e na nc) : ∀ d, DI (rodS e l sh na nc d) na nc := by
  intro d
  induction d with
  | zero => intro c _; exact Or.inl rfl
  | succ d ih => exact hosS_DI (evS_DI hL (morS_DI hL ih nc (Nat.le_refl _)) nc (Nat.le_refl _)) na
theorem ev2_ok {b n d na nc : Nat} {e : TB} {l : List RU} {sh : Nat → Nat → Bool} {M : TB} (hb : isBk b = true) (hL : LE e na nc) (hd : d < 60) (hz : ∀ r ∈ l, r.1 = 0 → r.2.1 = 0) {Q : PS → Prop} : ∀ (q m c : Nat) (σ : PS), c + q = nc → CE e l b sh n σ → (∀ c', c' < nc → CR σ c' d (evS e l d M c)) → (∀ τ : PS, dF d σ τ → (∀ k, 93 ≤ k → k ≤ 106 → ∀ j, gi τ k j = gi σ k j) → (∀ c', c' < nc → CR τ c' d (evS e l d M nc)) → hO (fX1_evening_95 b FU (nI d) 0 τ) Q) → hO (fX1_evening_2 b (m + q + 1) (nI d) (nI c) σ) Q := by
  have L1 := hL.1
  have L2 := hL.2.1
  intro q
  induction q with
  | zero =>
    intro m c σ hq hE hR hk
    have : c = nc := by omega
    subst this
    rw [fX1_evening_2, hE.1 3 (by decide) (by decide), hL.2.2.2.1, if_pos (nI_le (Nat.le_refl _) (by omega))]
    exact hk σ dF.rf (fun _ _ _ _ => rfl) hR
  | succ q ih =>
    intro m c σ hq hE hR hk
    have hc : c < nc := by omega
    have g6 : inb (nI c) 6 = true := inb_nI (by omega) (by decide)
    have g60 : inb (nI d) 60 = true := inb_nI hd (by decide)
    rw [show m + (q + 1) + 1 = (m + q + 1) + 1 by omega, fX1_evening_2, hE.1 3 (by decide) (by decide), hL.2.2.2.1, if_neg (nI_ge hc (by omega))]
    simp only [gd_t g6, gd_t g60]
    rw [nI_clamp (show c < 2 ^ 31 by omega), hE.1 22 (by decide) (by decide), hE.1 20 (by decide) (by decide), r43 (show c < 2 ^ 31 by omega), nI_clamp (show d < 2 ^ 31 by omega)]
    -- from the state with the beginning written
    have half : ∀ τ : PS, dF d σ τ → (∀ k, 93 ≤ k → k ≤ 106 → ∀ j, gi τ k j = gi σ k j) → (∀ c', c' < nc → CR τ c' d (beS e d (evS e l d M c) c)) → hO (fX1_evening_43 b (fX1_evening_2 b (m + q + 1)) (nI d) (nI c) τ) Q := by
      intro τ f1 f2 hT
      have hTc := hT c hc
      have hE1 := CE_dF hb hE f1
      have h0 : gi τ (44 + c) d = beS e d (evS e l d M c) c 0 c := hTc.1
      unfold fX1_evening_43 fX1_evening_87
      simp only [gd_t g6, gd_t g60]
      rw [r43 (show c < 2 ^ 31 by omega), nI_clamp (show d < 2 ^ 31 by omega), h0, nI_1]
      by_cases hm : beS e d (evS e l d M c) c 0 c = -1
      · rw [if_pos hm]
        refine ih m (c + 1) τ (by omega) hE1 (fun c' hc' => ?_) (fun υ g1 g2 g3 => hk υ (f1.tr g1) (fun k a b j => (g2 k a b j).trans (f2 k a b j)) g3)
        show CR τ c' d (fiS e l d (beS e d (evS e l d M c) c) c)
        unfold fiS
        rw [if_pos hm]
        exact hT c' hc'
      · rw [if_neg hm, setVars_eq (by omega) hd]
        simp only [Option.bind_some]
        have hv := svX_vars (i := beS e d (evS e l d M c) c 0 c) (e := e) (show c < 6 by omega) (hE1.1 17 (by decide) (by decide) c) (hE1.1 18 (by decide) (by decide) c) (hE1.1 19 (by decide) (by decide) c) (hE1.1 23 (by decide) (by decide) c) hTc.2.2.1 hTc.2.2.2.1
        have hB : BKC (svX τ c d (beS e d (evS e l d M c) c 0 c)) b l := BKC_fr (fun i hi j => svX_ne (by rcases bk_or hb with rfl | rfl <;> omega)) hE1.2.1
        have hval := val_ok hb _ 0 (by decide) 0 hB hv
        refine hval.then ?_
        rintro ⟨z, υ⟩ ⟨hz, hf⟩
        simp only at hz hf ⊢
        rw [r78 (show c < 2 ^ 31 by omega)]
        have v1 : ∀ k j, k ≠ 42 → k ≠ 123 → k ≠ 131 → gi υ k j = gi τ k j := fun k j a b c => by rw [frun_ne hf b c, svX_ne a]
        have f3 : dF d τ (sI υ (79 + c) d z) := by
          intro k j h1 h2 h3 h4 h5
          by_cases hj : j = d
          · rw [gi_ne (by have := h5 hj; omega)]; exact v1 k j h1 h2 h3
          · by_cases hkk : k = 79 + c
            · subst hkk; rw [gi_nj hj]; exact v1 _ j h1 h2 h3
            · rw [gi_ne hkk]; exact v1 k j h1 h2 h3
        have f4 : ∀ k, 93 ≤ k → k ≤ 106 → ∀ j, gi (sI υ (79 + c) d z) k j = gi τ k j := fun k a b j => by rw [gi_ne (by omega)]; exact v1 k j (by omega) (by omega) (by omega)
        refine ih m (c + 1) _ (by omega) (CE_dF hb hE1 f3) (fun c' hc' => ?_) (fun ω g1 g2 g3 => hk ω ((f1.tr f3).tr g1) (fun k a b j => ((g2 k a b j).trans (f4 k a b j)).trans (f2 k a b j)) g3)
        show CR _ c' d (fiS e l d (beS e d (evS e l d M c) c) c)
        unfold fiS
        rw [if_neg hm]
        obtain ⟨a0, a1, a2, a3, a4, a5, a6⟩ := hT c' hc'
        refine ⟨?_, ?_, ?_, ?_, ?_, ?_, ?_⟩
        · rw [gi_ne (by omega), v1 _ _ (by omega) (by omega) (by omega), u2_ne (by omega)]; exact a0
        · rw [gi_ne (by omega), v1 _ _ (by omega) (by omega) (by omega), u2_ne (by omega)]; exact a1
        · rw [gi_ne (by omega), v1 _ _ (by omega) (by omega) (by omega), u2_ne (by omega)]; exact a2
        · rw [gi_ne (by omega), v1 _ _ (by omega) (by omega) (by omega), u2_ne (by omega)]; exact a3
        · rw [gi_ne (by omega), v1 _ _ (by omega) (by omega) (by omega), u2_ne (by omega)]; exact a4
        · by_cases hcc : c' = c
          · subst hcc
            rw [gi_eq, u2_eq, hz]
          · rw [gi_ne (by omega), v1 _ _ (by omega) (by omega) (by omega), u2_ne (by omega)]; exact a5
        · rw [gi_ne (by omega), v1 _ _ (by omega) (by omega) (by omega), u2_ne (by omega)]; exact a6
    by_cases hbg : e 22 c = nI d
    · rw [if_pos hbg]
      refine half _ ?_ (fun k a b j => gi_ne (by omega)) (fun c' hc' => ?_)
      · intro k j h1 h2 h3 h4 h5
        by_cases hj : j = d
        · rw [gi_ne (by have := h5 hj; omega)]
        · by_cases hkk : k = 44 + c
          · subst hkk; rw [gi_nj hj]
          · rw [gi_ne hkk]
      · unfold beS
        rw [if_pos hbg]
        obtain ⟨a0, a1, a2, a3, a4, a5, a6⟩ := hR c' hc'
        refine ⟨?_, ?_, ?_, ?_, ?_, ?_, ?_⟩
        · by_cases hcc : c' = c
          · subst hcc
            rw [gi_eq, u2_eq]
          · rw [gi_ne (by omega), u2_ne (by omega)]; exact a0
        · rw [gi_ne (by omega), u2_ne (by omega)]; exact a1
        · rw [gi_ne (by omega), u2_ne (by omega)]; exact a2
        · rw [gi_ne (by omega), u2_ne (by omega)]; exact a3
        · rw [gi_ne (by omega), u2_ne (by omega)]; exact a4
        · rw [gi_ne (by omega), u2_ne (by omega)]; exact a5
        · rw [gi_ne (by omega), u2_ne (by omega)]; exact a6
    · rw [if_neg hbg]
      refine half σ dF.rf (fun _ _ _ _ => rfl) (fun c' hc' => ?_)
      unfold beS
      rw [if_neg hbg]
      exact hR c' hc'
/-- the table of a day -/
def CT (σ : PS) (na nc d : Nat) (D : TB) : Prop := (∀ c, c < nc → CR σ c d D) ∧ LR σ d D ∧ ∀ i, i < na → gi σ (93 + i) d = D 7 i
theorem cday_ok {b n d na nc : Nat} {e : TB} {l : List RU} {sh : Nat → Nat → Bool} {P : TB} {σ : PS} (hb : isBk b = true) (hL : LE e na nc) (hd : d < 60) (hz : ∀ r ∈ l, r.1 = 0 → r.2.1 = 0) (hP : DI P na nc) (hE : CE e l b sh n σ) (hV : PVH σ d na nc P) : hO ((fX1_morning b (nI d) (nI n) σ).bind (fun σ5 => fX1_evening b (nI d) σ5)) (fun τ => CT τ na nc d (dayS e l sh na nc d P) ∧ dF d σ τ) := by
  have L1 := hL.1
  have L2 := hL.2.1
  refine (morning_ok hb hL hd hP hE hV).then ?_
  rintro τ ⟨t1, t2, t3⟩
  unfold fX1_evening
  obtain ⟨m, hm⟩ := FU_k (nc + 1) (by omega)
  rw [hm]
  refine ev2_ok (M := morS e l sh d P nc) hb hL hd hz nc m 0 τ (by omega) (CE_dF hb hE t3) t1 ?_
  intro υ u1 u2 u3
  obtain ⟨m2, hm2⟩ := FU_k (na + 1) (by omega)
  rw [hm2]
  have hdF := t3.tr u1
  refine (hosts_ok (b := b) (D := evS e l d (morS e l sh d P nc) nc) hL hd na m2 0 υ (by omega) (CE_dF hb hE hdF).1 u3 (fun x hx => ?_) (fun i' hi' => by omega) (fun i' _ hi' => ?_)).mono (fun ω hω => ⟨⟨hω.1, hω.2.1, hω.2.2.1⟩, hdF.tr hω.2.2.2⟩)
  · rw [u2 _ (by omega) (by omega), evS_ne (by omega)]
    exact t2 x hx
  · rw [evS_ne (by omega), morS_ne (by decide) (by omega)]
    exact (PVH_dF hV hdF L2 L1).2.1 i' hi'
theorem CT_fr {σ τ : PS} {na nc d : Nat} {D : TB} (hc : nc ≤ 6) (ha : na ≤ 8) (h : CT σ na nc d D) (f : ∀ k, 44 ≤ k → k ≤ 106 → gi τ k d = gi σ k d) : CT τ na nc d D := ⟨fun c hcc => CR_fr (h.1 c hcc) (fun k hk => f _ (by omega) (by omega)), fun l hl => by rw [f _ (by omega) (by omega)]; exact h.2.1 l hl, fun i hi => by rw [f _ (by omega) (by omega)]; exact h.2.2 i hi⟩
theorem CT_PVH {σ : PS} {na nc d : Nat} {D : TB} (h : CT σ na nc d D) : PVH σ (d + 1) na nc D := by
  have e : ∀ k j, pv σ (d + 1) k j = gi σ (cl k j) d := by
    intro k j
    unfold pv
    rw [if_neg (by omega), Nat.add_sub_cancel]
  refine ⟨fun c hc => ?_, fun i hi => ?_, fun l hl => ?_⟩
  · obtain ⟨a0, a1, a2, a3, a4, a5, a6⟩ := h.1 c hc
    rw [e, e, e, e]
    exact ⟨a0, a2, a3, a4⟩
  · rw [e]; exact h.2.2 i hi
  · rw [e]; exact h.2.1 l hl
/-- what a walk leaves as it was -/
def wFr (σ τ : PS) : Prop := ∀ k, k ≠ 42 → k ≠ 123 → k ≠ 131 → ¬ (44 ≤ k ∧ k ≤ 115) → ∀ j, gi τ k j = gi σ k j
theorem walk26_ok {b n na nc : Nat} {e : TB} {l : List RU} {sh : Nat → Nat → Bool} (hb : isBk b = true) (hL : LE e na nc) (hz : ∀ r ∈ l, r.1 = 0 → r.2.1 = 0) : ∀ (q m d : Nat) (σ : PS), d + q = 60 → CE e l b sh n σ → PVH σ d na nc (rodS e l sh na nc d) → (∀ d', d' < d → CT σ na nc d' (rodS e l sh na nc (d' + 1))) → hO (fX1_walk_26 b (m + q + 1) (nI n) (nI d) σ) (fun τ => (∀ d', d' < 60 → CT τ na nc d' (rodS e l sh na nc (d' + 1))) ∧ wFr σ τ) := by
  intro q
  induction q with
  | zero =>
    intro m d σ hq hE hV hT
    have : d = 60 := by omega
    subst this
    rw [fX1_walk_26, if_pos (show (60 : Int32) ≤ nI 60 by decide)]
    exact ⟨_, rfl, hT, fun _ _ _ _ _ _ => rfl⟩
  | succ q ih =>
    intro m d σ hq hE hV hT
    rw [show m + (q + 1) + 1 = (m + q + 1) + 1 by omega, fX1_walk_26, if_neg (l_nle (k := 60) (by rfl) (by omega) (by decide)), nI_1]
    have hday := cday_ok hb hL (show d < 60 by omega) hz (rodS_DI hL d) hE hV
    have : hO (((fX1_morning b (nI d) (nI n) σ).bind (fun σ5 => fX1_evening b (nI d) σ5)).bind (fun σ8 => fX1_walk_26 b (m + q + 1) (nI n) (nI (d + 1)) σ8)) (fun τ => (∀ d', d' < 60 → CT τ na nc d' (rodS e l sh na nc (d' + 1))) ∧ wFr σ τ) := by
      refine hday.then ?_
      rintro τ ⟨t1, t2⟩
      refine (ih m (d + 1) τ (by omega) (CE_dF hb hE t2) (CT_PVH t1) (fun d' hd' => ?_)).mono (fun ω hω => ⟨hω.1, fun k h1 h2 h3 h4 j => by rw [hω.2 k h1 h2 h3 h4, t2 k j h1 h2 h3 (by omega) (fun _ => by omega)]⟩)
      by_cases hdd : d' = d
      · subst hdd; exact t1
      · refine CT_fr hL.2.1 hL.1 (hT d' (by omega)) (fun k h1 h2 => ?_)
        exact t2 k d' (by omega) (by omega) (by omega) (by omega) (fun hj => absurd hj hdd)
    rw [Option.bind_assoc] at this
    exact this
