/-! the class's whole morning -/
/-- an inn, or none -/
def DI (D : TB) (na nc : Nat) : Prop := ∀ c, c < nc → D 0 c = -1 ∨ ∃ i, i < na ∧ D 0 c = nI i
def PVH (σ : PS) (d na nc : Nat) (P : TB) : Prop := (∀ c, c < nc → pv σ d 0 c = P 0 c ∧ pv σ d 2 c = P 2 c ∧ pv σ d 3 c = P 3 c ∧ pv σ d 4 c = P 4 c) ∧ (∀ i, i < na → pv σ d 7 i = P 7 i) ∧ (∀ l, l < 5 → pv σ d 8 l = P 8 l)
theorem pv_congr {σ τ : PS} {d k j : Nat} (h : d ≠ 0 → gi τ (cl k j) (d - 1) = gi σ (cl k j) (d - 1)) : pv τ d k j = pv σ d k j := by
  unfold pv
  by_cases hd : d = 0
  · rw [if_pos hd, if_pos hd]
  · rw [if_neg hd, if_neg hd, h hd]
theorem PVH_fr {σ τ : PS} {d na nc : Nat} {P : TB} (h : PVH σ d na nc P) (f : d ≠ 0 → ∀ k, 44 ≤ k → k ≤ 106 → gi τ k (d - 1) = gi σ k (d - 1)) (hc : nc ≤ 6) (ha : na ≤ 8) : PVH τ d na nc P := by
  have g : ∀ k j, (k ≤ 6 ∧ j < 6) ∨ (k = 7 ∧ j < 8) ∨ (k = 8 ∧ j < 5) → pv τ d k j = pv σ d k j := by
    intro k j hk
    refine pv_congr (fun hd => f hd _ ?_ ?_)
    · unfold cl; split <;> omega
    · unfold cl; split <;> omega
  refine ⟨fun c hcc => ?_, fun i hi => ?_, fun l hl => ?_⟩
  · have := h.1 c hcc
    exact ⟨(g 0 c (by omega)).trans this.1, (g 2 c (by omega)).trans this.2.1, (g 3 c (by omega)).trans this.2.2.1, (g 4 c (by omega)).trans this.2.2.2⟩
  · exact (g 7 i (by omega)).trans (h.2.1 i hi)
  · exact (g 8 l (by omega)).trans (h.2.2 l hl)
/-! what a morning's step leaves -/
theorem u2_ne {f : TB} {k j : Nat} {x : Int32} {a b : Nat} (h : a ≠ k ∨ b ≠ j) : u2 f k j x a b = f a b := by
  unfold u2
  rcases h with h | h
  · rw [if_neg h]
  · by_cases hk : a = k
    · rw [if_pos hk, if_neg h]
    · rw [if_neg hk]
theorem u2_eq {f : TB} {k j : Nat} {x : Int32} : u2 f k j x k j = x := by
  unfold u2
  rw [if_pos rfl, if_pos rfl]
theorem slS_ne {D : TB} {c : Nat} {h : Int32} {k j : Nat} (hj : j ≠ c ∨ (k ≠ 0 ∧ k ≠ 1 ∧ k ≠ 5 ∧ k ≠ 6)) : slS D c h k j = D k j := by
  unfold slS
  rw [u2_ne (by omega), u2_ne (by omega), u2_ne (by omega), u2_ne (by omega)]
theorem goS_ne {e : TB} {l : List RU} {d c : Nat} {h n : Int32} {D : TB} {k j : Nat} (h8 : k ≠ 8) (hj : j ≠ c ∨ (k ≠ 0 ∧ k ≠ 4)) : goS e l d c h n D k j = D k j := by
  unfold goS
  split
  · rw [u2_ne (by omega)]
  · split
    · rw [u2_ne (by omega)]
    · rw [u2_ne (by omega), u2_ne (by omega), u2_ne (by omega)]
theorem brS_ne {e : TB} {l : List RU} {sh : Nat → Nat → Bool} {d c : Nat} {h n : Int32} {D : TB} {k j : Nat} (h8 : k ≠ 8) (hj : j ≠ c ∨ (k ≠ 0 ∧ k ≠ 4 ∧ k ≠ 6)) : brS e l sh d c h n D k j = D k j := by
  unfold brS
  split
  · rw [goS_ne h8 (by omega), u2_ne (by omega)]
  · rw [u2_ne (by omega)]
theorem mo1S_ne {e : TB} {l : List RU} {sh : Nat → Nat → Bool} {d c : Nat} {D : TB} {k j : Nat} (h8 : k ≠ 8) (hj : j ≠ c ∨ k = 2 ∨ k = 3 ∨ k = 7) : mo1S e l sh d D c k j = D k j := by
  unfold mo1S
  split
  · exact slS_ne (by omega)
  · rw [brS_ne h8 (by omega), slS_ne (by omega)]
theorem morS_ne {e : TB} {l : List RU} {sh : Nat → Nat → Bool} {d : Nat} {D : TB} {k j : Nat} (h8 : k ≠ 8) : ∀ {n : Nat}, (n ≤ j ∨ k = 2 ∨ k = 3 ∨ k = 7) → morS e l sh d D n k j = D k j := by
  intro n
  induction n with
  | zero => intro _; rfl
  | succ n ih =>
    intro h
    show mo1S e l sh d (morS e l sh d D n) n k j = _
    rw [mo1S_ne h8 (by omega), ih (by omega)]
theorem wkS_DI {e D : TB} {na nc c : Nat} (h : DI D na nc) (hc : c < nc) : wkS e D c = -1 ∨ ∃ i, i < na ∧ wkS e D c = nI i ∧ D 0 c = nI i ∧ D 0 c ≠ e 21 c := by
  unfold wkS
  by_cases hq : D 0 c = e 21 c
  · rw [if_pos hq]; exact Or.inl rfl
  · rw [if_neg hq]
    rcases h c hc with h | ⟨i, hi, h⟩
    · exact Or.inl h
    · exact Or.inr ⟨i, hi, h, h, hq⟩
theorem brS_0 {e : TB} {l : List RU} {sh : Nat → Nat → Bool} {d c : Nat} {h n : Int32} {D : TB} : brS e l sh d c h n D 0 c = n ∨ brS e l sh d c h n D 0 c = D 0 c := by
  unfold brS
  split
  · left
    unfold goS
    split
    · exact u2_eq
    · split
      · exact u2_eq
      · rw [u2_ne (by omega), u2_ne (by omega), u2_eq]
  · right
    exact u2_ne (by omega)
theorem mo1S_DI {e D : TB} {l : List RU} {sh : Nat → Nat → Bool} {d na nc c : Nat} (hL : LE e na nc) (h : DI D na nc) (hc : c < nc) : DI (mo1S e l sh d D c) na nc := by
  intro j hj
  by_cases hjc : j = c
  · subst hjc
    unfold mo1S
    rcases wkS_DI (e := e) h hj with hw | ⟨i, hi, hw, h0, hne⟩
    · rw [if_pos hw]
      left
      unfold slS
      rw [u2_ne (by omega), u2_ne (by omega), u2_ne (by omega), u2_eq, hw]
    · rw [if_neg (by rw [hw]; exact nI_m1 (by have := hL.1; omega)), hw]
      obtain ⟨-, -, -, ⟨f, t, -, ht, -, htn, -⟩, -⟩ := hL.2.2.2.2.2 j hj
      obtain ⟨x, hx, hxe, -⟩ := nx_of (c := j) ht hi htn (fun q => hne (by rw [h0, ht, q])) hL.1
      rcases brS_0 (e := e) (l := l) (sh := sh) (d := d) (c := j) (h := nI i) (n := nxS e j (nI i)) (D := slS D j (nI i)) with q | q
      · rw [q, hxe]; exact Or.inr ⟨x, hx, rfl⟩
      · rw [q]
        right
        refine ⟨i, hi, ?_⟩
        unfold slS
        rw [u2_ne (by omega), u2_ne (by omega), u2_ne (by omega), u2_eq]
  · rw [mo1S_ne (by decide) (Or.inl hjc)]
    exact h j hj
theorem morS_DI {e D : TB} {l : List RU} {sh : Nat → Nat → Bool} {d na nc : Nat} (hL : LE e na nc) (h : DI D na nc) : ∀ n, n ≤ nc → DI (morS e l sh d D n) na nc := by
  intro n
  induction n with
  | zero => intro _; exact h
  | succ n ih => intro hn; exact mo1S_DI hL (ih (by omega)) (by omega)
/-- nothing but the day's column of the tables, and what a walk uses -/
def dF (d : Nat) (σ τ : PS) : Prop := ∀ k j, k ≠ 42 → k ≠ 123 → k ≠ 131 → ¬ (107 ≤ k ∧ k ≤ 115) → (j = d → ¬ (44 ≤ k ∧ k ≤ 106)) → gi τ k j = gi σ k j
theorem dF.rf {d : Nat} {σ : PS} : dF d σ σ := fun _ _ _ _ _ _ _ => rfl
theorem dF.tr {d : Nat} {σ τ υ : PS} (a : dF d σ τ) (b : dF d τ υ) : dF d σ υ := fun k j h1 h2 h3 h4 h5 => (b k j h1 h2 h3 h4 h5).trans (a k j h1 h2 h3 h4 h5)
theorem CE_dF {e : TB} {l : List RU} {b : Nat} (hb : isBk b = true) {sh : Nat → Nat → Bool} {n d : Nat} {σ τ : PS} (h : CE e l b sh n σ) (f : dF d σ τ) : CE e l b sh n τ := by
  refine CE_fr hb h (fun k h1 h2 j => f k j (by omega) (by omega) (by omega) (by omega) (fun _ => by omega)) (fun k h1 h2 h3 j => f k j (by omega) (by omega) (by omega) (by omega) (fun _ => by omega))
theorem PVH_dF {σ τ : PS} {d na nc : Nat} {P : TB} (h : PVH σ d na nc P) (f : dF d σ τ) (hc : nc ≤ 6) (ha : na ≤ 8) : PVH τ d na nc P := PVH_fr h (fun hd k h1 h2 => by
  by_cases hk : 107 ≤ k
  · omega
  · exact f k (d - 1) (by omega) (by omega) (by omega) (by omega) (fun hj => by omega)) hc ha
theorem CR_fr {σ τ : PS} {c d : Nat} {D : TB} (h : CR σ c d D) (f : ∀ k, k ≤ 6 → gi τ (44 + 7 * k + c) d = gi σ (44 + 7 * k + c) d) : CR τ c d D := by
  obtain ⟨h0, h1, h2, h3, h4, h5, h6⟩ := h
  exact ⟨(f 0 (by omega)).trans h0, (f 1 (by omega)).trans h1, (f 2 (by omega)).trans h2, (f 3 (by omega)).trans h3, (f 4 (by omega)).trans h4, (f 5 (by omega)).trans h5, (f 6 (by omega)).trans h6⟩
theorem CR_sp {σ : PS} {c d : Nat} {D D' : TB} (h : CR σ c d D) (f : ∀ k, k ≤ 6 → D' k c = D k c) : CR σ c d D' := by
  obtain ⟨h0, h1, h2, h3, h4, h5, h6⟩ := h
  exact ⟨h0.trans (f 0 (by omega)).symm, h1.trans (f 1 (by omega)).symm, h2.trans (f 2 (by omega)).symm, h3.trans (f 3 (by omega)).symm, h4.trans (f 4 (by omega)).symm, h5.trans (f 5 (by omega)).symm, h6.trans (f 6 (by omega)).symm⟩
theorem mor46_ok {b d n na nc : Nat} {e : TB} {l : List RU} {sh : Nat → Nat → Bool} {P : TB} (hb : isBk b = true) (hL : LE e na nc) (hd : d < 60) (hP : DI P na nc) : ∀ (q m c : Nat) (σ : PS), c + q = nc → CE e l b sh n σ → PVH σ d na nc P → (∀ c', c' < c → CR σ c' d (morS e l sh d P c)) → LR σ d (morS e l sh d P c) → hO (fX1_morning_46 b (m + q + 1) (nI d) (nI n) (nI c) σ) (fun τ => (∀ c', c' < nc → CR τ c' d (morS e l sh d P nc)) ∧ LR τ d (morS e l sh d P nc) ∧ dF d σ τ) := by
  have L1 := hL.1
  have L2 := hL.2.1
  intro q
  induction q with
  | zero =>
    intro m c σ hq hE hV hR hG
    have : c = nc := by omega
    subst this
    rw [fX1_morning_46, hE.1 3 (by decide) (by decide), hL.2.2.2.1, if_pos (nI_le (Nat.le_refl _) (by omega))]
    exact ⟨_, rfl, hR, hG, dF.rf⟩
  | succ q ih =>
    intro m c σ hq hE hV hR hG
    have hc : c < nc := by omega
    rw [show m + (q + 1) + 1 = (m + q + 1) + 1 by omega, fX1_morning_46, hE.1 3 (by decide) (by decide), hL.2.2.2.1, if_neg (nI_ge hc (by omega)), wake_eq (by omega) hd]
    simp only [Option.bind_some]
    rw [gd_t (inb_nI (by omega) (by decide)), gd_t (inb_nI hd (by decide)), r43 (by omega), nI_clamp (by omega)]
    unfold fX1_morning_87
    rw [nI_1]
    have hDI := morS_DI (l := l) (sh := sh) (d := d) hL hP c (by omega)
    have hM : ∀ k, k ≠ 8 → morS e l sh d P c k c = P k c := fun k hk => morS_ne hk (Or.inl (Nat.le_refl _))
    -- the state behind wake
    have wF : ∀ k j, (j = d → k ≠ 44 + c ∧ k ≠ 51 + c ∧ k ≠ 58 + c ∧ k ≠ 65 + c ∧ k ≠ 72 + c ∧ k ≠ 79 + c ∧ k ≠ 86 + c) → gi (wkX σ c d) k j = gi σ k j := by
      intro k j hk
      unfold wkX
      by_cases hj : j = d
      · have := hk hj
        simp (disch := omega) only [gi_ne]
      · simp only [gi_sI, if_neg hj, ite_self]
    have wd : dF d σ (wkX σ c d) := fun k j h1 h2 h3 h4 h5 => wF k j (fun hj => by have := h5 hj; omega)
    have hwk : (if pv σ d 0 c = gi σ 21 c then (-1 : Int32) else pv σ d 0 c) = wkS e (morS e l sh d P c) c := by
      unfold wkS
      rw [(hV.1 c hc).1, hE.1 21 (by decide) (by decide), hM 0 (by decide)]
    have hRw : CR (wkX σ c d) c d (slS (morS e l sh d P c) c (wkS e (morS e l sh d P c) c)) := by
      unfold wkX slS
      rw [hwk]
      refine ⟨?_, ?_, ?_, ?_, ?_, ?_, ?_⟩
      · simp (disch := omega) only [gi_ne, gi_eq, u2_ne, u2_eq]
      · simp (disch := omega) only [gi_ne, gi_eq, u2_ne, u2_eq]
      · simp (disch := omega) only [gi_ne, gi_eq, u2_ne, u2_eq]
        rw [hM 2 (by decide)]; exact (hV.1 c hc).2.1
      · simp (disch := omega) only [gi_ne, gi_eq, u2_ne, u2_eq]
        rw [hM 3 (by decide)]; exact (hV.1 c hc).2.2.1
      · simp (disch := omega) only [gi_ne, gi_eq, u2_ne, u2_eq]
        rw [hM 4 (by decide)]; exact (hV.1 c hc).2.2.2
      · simp (disch := omega) only [gi_ne, gi_eq, u2_ne, u2_eq]
      · simp (disch := omega) only [gi_ne, gi_eq, u2_ne, u2_eq]
    have hGw : LR (wkX σ c d) d (slS (morS e l sh d P c) c (wkS e (morS e l sh d P c) c)) := by
      intro x hx
      rw [wF _ _ (fun _ => by omega), slS_ne (by omega)]
      exact hG x hx
    have hOw : ∀ c', c' < c → CR (wkX σ c d) c' d (morS e l sh d P c) := fun c' hc' => CR_fr (hR c' hc') (fun k hk => wF _ _ (fun _ => by omega))
    have hEw := CE_dF hb hE wd
    have h0 : gi (wkX σ c d) (44 + c) d = wkS e (morS e l sh d P c) c := by
      rw [hRw.1]
      unfold slS
      rw [u2_ne (by omega), u2_ne (by omega), u2_ne (by omega), u2_eq]
    rw [h0]
    -- the rest of the loop
    have rest : ∀ τ : PS, dF d (wkX σ c d) τ → (∀ c', c' < c → CR τ c' d (morS e l sh d P c)) → CR τ c d (mo1S e l sh d (morS e l sh d P c) c) → LR τ d (mo1S e l sh d (morS e l sh d P c) c) → hO (fX1_morning_46 b (m + q + 1) (nI d) (nI n) (nI (c + 1)) τ) (fun τ => (∀ c', c' < nc → CR τ c' d (morS e l sh d P nc)) ∧ LR τ d (morS e l sh d P nc) ∧ dF d σ τ) := by
      intro τ h1 h2 h3 h4
      have hdF := wd.tr h1
      refine (ih m (c + 1) τ (by omega) (CE_dF hb hE hdF) (PVH_dF hV hdF L2 L1) ?_ h4).mono (fun a ha => ⟨ha.1, ha.2.1, hdF.tr ha.2.2⟩)
      intro c' hc'
      by_cases hcc : c' = c
      · subst hcc; exact h3
      · exact CR_sp (h2 c' (by omega)) (fun k hk => mo1S_ne (by omega) (by omega))
    rcases wkS_DI (e := e) hDI hc with hw | ⟨h, hh, hw, hw0, hne⟩
    · rw [if_pos hw]
      have e1 : mo1S e l sh d (morS e l sh d P c) c = slS (morS e l sh d P c) c (wkS e (morS e l sh d P c) c) := by
        unfold mo1S
        rw [if_pos hw]
      refine rest _ dF.rf hOw ?_ ?_
      · rw [e1]; exact hRw
      · rw [e1]; exact hGw
    · have hw1 : ¬ wkS e (morS e l sh d P c) c = -1 := by rw [hw]; exact nI_m1 (by omega)
      rw [if_neg hw1]
      have e1 : mo1S e l sh d (morS e l sh d P c) c = brS e l sh d c (nI h) (nxS e c (nI h)) (slS (morS e l sh d P c) c (nI h)) := by
        unfold mo1S
        rw [if_neg hw1, hw]
      rw [hw] at hRw hGw
      have hgo := goOn_ok hb hEw hL hc hd hh (fun q => hne (by rw [hw0, q])) (by unfold slS; rw [u2_ne (by omega), u2_ne (by omega), u2_ne (by omega), u2_eq]) hRw hGw
      refine hgo.then ?_
      rintro τ ⟨t1, t2, t3⟩
      refine rest τ ?_ ?_ ?_ ?_
      · intro k j h1 h2 h3 h4 h5
        exact t3 k j h1 h2 h3 (fun hj => by have := h5 hj; omega)
      · intro c' hc'
        exact CR_fr (hOw c' hc') (fun k hk => t3 _ _ (by omega) (by omega) (by omega) (fun _ => by omega))
      · rw [e1]; exact t1
      · rw [e1]; exact t2
theorem mor3_ok {b d n na nc : Nat} {P : TB} (hd : d < 60) {Q : PS → Prop} (ha : na ≤ 8) (hn : nc ≤ 6) : ∀ (q m x : Nat) (σ : PS), x + q = 5 → PVH σ d na nc P → (∀ x', x' < x → gi σ (102 + x') d = P 8 x') → (∀ τ : PS, dF d σ τ → LR τ d P → hO (fX1_morning_46 b FU (nI d) (nI n) 0 τ) Q) → hO (fX1_morning_3 b (m + q + 1) (nI d) (nI n) (nI x) σ) Q := by
  intro q
  induction q with
  | zero =>
    intro m x σ hq hV hG hk
    have : x = 5 := by omega
    subst this
    rw [fX1_morning_3, if_pos (show (5 : Int32) ≤ nI 5 by decide)]
    exact hk σ dF.rf hG
  | succ q ih =>
    intro m x σ hq hV hG hk
    rw [show m + (q + 1) + 1 = (m + q + 1) + 1 by omega, fX1_morning_3, if_neg (l_nle (k := 5) (by rfl) (by omega) (by decide)), gd_t (inb_nI (by omega) (by decide))]
    have step : ∀ v : Int32, v = pv σ d 8 x → hO (fX1_morning_36 b (fX1_morning_3 b (m + q + 1)) (nI d) (nI n) (nI x) (nI x) (nI d) v σ) Q := by
      intro v hv
      unfold fX1_morning_36
      rw [gd_t (inb_nI hd (by decide)), nI_1, r101 (by omega), nI_clamp (by omega)]
      have f1 : dF d σ (sI σ (102 + x) d v) := by
        intro k j h1 h2 h3 h4 h5
        by_cases hj : j = d
        · rw [gi_ne (by have := h5 hj; omega)]
        · by_cases hk : k = 102 + x
          · subst hk; rw [gi_nj hj]
          · rw [gi_ne hk]
      refine ih m (x + 1) _ (by omega) (PVH_dF hV f1 hn ha) ?_ (fun τ h1 h2 => hk τ (f1.tr h1) h2)
      intro x' hx'
      by_cases hxx : x' = x
      · subst hxx
        rw [gi_eq, hv]; exact hV.2.2 _ (by omega)
      · rw [gi_ne (by omega)]; exact hG x' (by omega)
    cases d with
    | zero =>
      rw [if_pos nI_0]
      exact step _ rfl
    | succ d =>
      rw [if_neg (nI_ne0 (by omega) (by omega)), nI_pred, gd_t (inb_nI (by omega) (by decide)), gd_t (inb_nI (by omega) (by decide)), r101 (by omega), nI_clamp (by omega)]
      exact step _ rfl
theorem morning_ok {b d n na nc : Nat} {e : TB} {l : List RU} {sh : Nat → Nat → Bool} {P : TB} {σ : PS} (hb : isBk b = true) (hL : LE e na nc) (hd : d < 60) (hP : DI P na nc) (hE : CE e l b sh n σ) (hV : PVH σ d na nc P) : hO (fX1_morning b (nI d) (nI n) σ) (fun τ => (∀ c, c < nc → CR τ c d (morS e l sh d P nc)) ∧ LR τ d (morS e l sh d P nc) ∧ dF d σ τ) := by
  unfold fX1_morning
  obtain ⟨m, hm⟩ := FU_k 6 (by decide)
  rw [hm]
  refine mor3_ok (na := na) (nc := nc) (P := P) hd hL.1 hL.2.1 5 m 0 σ (by omega) hV (fun _ h => by omega) ?_
  intro τ f1 hG
  obtain ⟨m2, hm2⟩ := FU_k (nc + 1) (by have := hL.2.1; omega)
  rw [hm2]
  exact (mor46_ok hb hL hd hP nc m2 0 τ (by omega) (CE_dF hb hE f1) (PVH_dF hV f1 hL.2.1 hL.1) (fun _ h => by omega) hG).mono (fun a ha => ⟨ha.1, ha.2.1, f1.tr ha.2.2⟩)
