/-! the class's rooms -/
def RS (σ : PS) (i : Nat) (st : TB) : Prop := ∀ r, r < 3 → gi σ 113 r = st 0 r ∧ gi σ 114 r = st 1 r ∧ (st 0 r ≠ 0 → gi σ 115 r = st 2 r) ∧ isN (st 0 r) 0 i
theorem isOpenTo_eq {e : TB} {i x r c : Nat} {st : TB} {σ : PS} (hr : r < 3) (hc : c < 6) (hx : x < 8) (h1 : gi σ 107 1 = nI x) (h17 : gi σ 17 c = e 17 c) (h19 : gi σ 19 c = e 19 c) (hs : gi σ (9 + x) r = e (9 + x) r) (hR : RS σ i st) : fX3_isOpenTo (nI r) (nI c) σ = some (tb (opnS e x st r c), σ) := by
  obtain ⟨a1, a2, a3, a4⟩ := hR r hr
  have g3 : inb (nI r) 3 = true := inb_nI hr (by decide)
  have g6 : inb (nI c) 6 = true := inb_nI hc (by decide)
  unfold fX3_isOpenTo fX3_isOpenTo_27
  simp only [gd_t g3, gd_t g6]
  rw [h1]
  simp only [gd_t (inb_nI hx (show 8 < 2 ^ 31 by decide))]
  rw [r8 (by omega), nI_clamp (show r < 2 ^ 31 by omega), nI_clamp (show c < 2 ^ 31 by omega), a1, a2, h17, h19, hs]
  unfold opnS
  by_cases h0 : st 0 r = 0
  · rw [if_pos h0, decide_eq_true h0, Bool.true_or, Bool.true_and]
    by_cases hl : e (9 + x) r < st 1 r + e 19 c
    · rw [if_pos hl, decide_eq_true hl]; rfl
    · rw [if_neg hl, decide_eq_false hl]; rfl
  · rw [if_neg h0, decide_eq_false h0, Bool.false_or, a3 h0]
    by_cases hk : st 2 r = e 17 c
    · rw [if_pos hk, decide_eq_true hk, Bool.true_and]
      by_cases hl : e (9 + x) r < st 1 r + e 19 c
      · rw [if_pos hl, decide_eq_true hl]; rfl
      · rw [if_neg hl, decide_eq_false hl]; rfl
    · rw [if_neg hk, decide_eq_false hk, Bool.false_and]; rfl
def fitP (σ τ : PS) (e : TB) (x R i : Nat) (st : TB) (o : Option (List Nat)) (y : Int32) : Prop := match o with
  | none => y = 0 ∧ RS τ i st ∧ ∀ j, j < i → gi τ 112 j = gi σ 112 j
  | some t => y = 1 ∧ (∀ j, j < i → gi τ 112 j = gi σ 112 j) ∧ ∀ j, j < t.length → gi τ 112 (i + j) = nI (t.getD j 0)
def fitE (e : TB) (x R : Nat) (σ : PS) : Prop := gi σ 107 1 = nI x ∧ gi σ 7 x = nI R ∧ (∀ c, c < 6 → gi σ 17 c = e 17 c ∧ gi σ 19 c = e 19 c) ∧ ∀ r, r < 3 → gi σ (9 + x) r = e (9 + x) r
theorem fits23_ok {e : TB} {x R i tot c : Nat} {cs : List Nat} {st : TB} {rf : Int32 → Int32 → PS → Option (Int32 × PS)} (hx : x < 8) (hRR : R ≤ 3) (hi : i < 6) (hc : c < 6)
    (frf : ∀ a b σ q, rf a b σ = some q → FRM SX3_fits σ q.2)
    (hrf : ∀ (st' : TB) (σ : PS), fitE e x R σ → (∀ j, j < cs.length → gi σ 111 (i + 1 + j) = nI (cs.getD j 0)) → RS σ (i + 1) st' → hO (rf (nI (i + 1)) (nI tot) σ) (fun q => fitP σ q.2 e x R (i + 1) st' (fitS e x R cs st') q.1)) :
    ∀ (k r m : Nat) (σ : PS), r + k = R → fitE e x R σ → (∀ j, j < cs.length → gi σ 111 (i + 1 + j) = nI (cs.getD j 0)) → RS σ i st → hO (fX3_fits_23 rf (m + k + 1) (nI i) (nI tot) (nI c) (nI r) σ) (fun q => fitP σ q.2 e x R i st ((List.range' r k).findSome? (fun r => if opnS e x st r c = true then (fitS e x R cs (putS e st r c)).map (fun l => r :: l) else none)) q.1) := by
  intro k
  induction k with
  | zero =>
    intro r m σ hk hE h111 hR
    have : r = R := by omega
    subst this
    rw [fX3_fits_23, hE.1, gd_t (inb_nI hx (by decide)), nI_clamp (by omega), hE.2.1, if_pos (nI_le (Nat.le_refl _) (by omega))]
    exact ⟨_, rfl, rfl, hR, fun _ _ => rfl⟩
  | succ k ih =>
    intro r m σ hk hE h111 hR
    have hr : r < 3 := by omega
    have g3 : inb (nI r) 3 = true := inb_nI hr (by decide)
    have g6 : inb (nI c) 6 = true := inb_nI hc (by decide)
    have g6i : inb (nI i) 6 = true := inb_nI hi (by decide)
    rw [show m + (k + 1) + 1 = (m + k + 1) + 1 by omega, fX3_fits_23, hE.1, gd_t (inb_nI hx (by decide)), nI_clamp (show x < 2 ^ 31 by omega), hE.2.1, if_neg (nI_ge (by omega) (by omega)), if_neg (l_nle (k := 3) (by rfl) hr (by decide)), isOpenTo_eq hr hc hx hE.1 (hE.2.2.1 c hc).1 (hE.2.2.1 c hc).2 (hE.2.2.2 r hr) hR]
    simp only [Option.bind_some]
    rw [ite_tb, List.range'_succ, List.findSome?_cons]
    unfold fX3_fits_153
    simp only [nI_1]
    by_cases ho : opnS e x st r c = true
    · rw [if_pos ho]
      simp only [if_pos ho, gd_t g3, gd_t g6, gd_t g6i, nI_clamp (n := r) (show r < 2 ^ 31 by omega), nI_clamp (n := c) (show c < 2 ^ 31 by omega), nI_clamp (n := i) (show i < 2 ^ 31 by omega)]
      simp (disch := decide) only [gi_ne]
      obtain ⟨a1, a2, a3, p, a4, -, a5⟩ := hR r hr
      rw [a1, a2, (hE.2.2.1 c hc).1, (hE.2.2.1 c hc).2]
      generalize hτ : sI (sI (sI (sI σ 113 r (st 0 r + 1)) 114 r (st 1 r + e 19 c)) 115 r (e 17 c)) 112 i (nI r) = τ
      have t1 : ∀ k j, k ≠ 113 → k ≠ 114 → k ≠ 115 → k ≠ 112 → gi τ k j = gi σ k j := by
        intro k j h1 h2 h3 h4
        rw [← hτ, gi_ne h4, gi_ne h3, gi_ne h2, gi_ne h1]
      have t112 : ∀ j, j < i → gi τ 112 j = gi σ 112 j := by
        intro j hj
        rw [← hτ, gi_nj (by omega), gi_ne (by decide), gi_ne (by decide), gi_ne (by decide)]
      have ti : gi τ 112 i = nI r := by rw [← hτ, gi_eq]
      have tE : fitE e x R τ := ⟨by rw [t1 _ _ (by decide) (by decide) (by decide) (by decide)]; exact hE.1, by rw [t1 _ _ (by decide) (by decide) (by decide) (by decide)]; exact hE.2.1, fun c hc => by rw [t1 _ _ (by decide) (by decide) (by decide) (by decide), t1 _ _ (by decide) (by decide) (by decide) (by decide)]; exact hE.2.2.1 c hc, fun r hr => by rw [t1 _ _ (by omega) (by omega) (by omega) (by omega)]; exact hE.2.2.2 r hr⟩
      have t111 : ∀ j, j < cs.length → gi τ 111 (i + 1 + j) = nI (cs.getD j 0) := fun j hj => by rw [t1 _ _ (by decide) (by decide) (by decide) (by decide)]; exact h111 j hj
      have tR : RS τ (i + 1) (putS e st r c) := by
        intro r' hr'
        unfold putS
        by_cases hrr : r' = r
        · subst hrr
          refine ⟨?_, ?_, fun _ => ?_, ?_⟩
          · rw [← hτ, gi_ne (by decide), gi_ne (by decide), gi_ne (by decide), gi_eq, u2_ne (by omega), u2_ne (by omega), u2_eq]
          · rw [← hτ, gi_ne (by decide), gi_ne (by decide), gi_eq, u2_ne (by omega), u2_eq]
          · rw [← hτ, gi_ne (by decide), gi_eq, u2_eq]
          · rw [u2_ne (by omega), u2_ne (by omega), u2_eq, a4, nI_1]
            exact ⟨p + 1, rfl, by omega, by omega⟩
        · obtain ⟨b1, b2, b3, p', b4, -, b5⟩ := hR r' hr'
          rw [u2_ne (by omega), u2_ne (by omega), u2_ne (by omega), u2_ne (by omega), u2_ne (by omega), u2_ne (by omega), u2_ne (by omega), u2_ne (by omega), u2_ne (by omega)]
          refine ⟨?_, ?_, fun h => ?_, p', b4, by omega, by omega⟩
          · rw [← hτ, gi_ne (by decide), gi_ne (by decide), gi_ne (by decide), gi_nj hrr]; exact b1
          · rw [← hτ, gi_ne (by decide), gi_ne (by decide), gi_nj hrr, gi_ne (by decide)]; exact b2
          · rw [← hτ, gi_ne (by decide), gi_nj hrr, gi_ne (by decide), gi_ne (by decide)]; exact b3 h
      have hcall := (hrf (putS e st r c) τ tE t111 tR).and (fun a ea => frf _ _ _ _ ea)
      refine hcall.then ?_
      rintro ⟨y, υ⟩ ⟨hP, hF⟩
      have u1 : ∀ k, k < 112 → ∀ j, gi υ k j = gi τ k j := fun k hk j => hF.1 k (by unfold SX3_fits inS; simp; omega) j
      cases hfit : fitS e x R cs (putS e st r c) with
      | some t =>
        rw [hfit] at hP
        obtain ⟨p1, p2, p3⟩ := hP
        simp only at p1 p2 p3 ⊢
        rw [p1, if_neg (by decide)]
        refine ⟨_, rfl, rfl, fun j hj => ?_, fun j hj => ?_⟩
        · rw [p2 j (by omega), t112 j hj]
        · cases j with
          | zero => rw [Nat.add_zero, p2 i (by omega), ti]; rfl
          | succ j =>
            simp only [List.length_cons] at hj
            rw [show i + (j + 1) = i + 1 + j by omega, p3 j (by omega)]
            rfl
      | none =>
        rw [hfit] at hP
        obtain ⟨p1, p2, p3⟩ := hP
        simp only at p1 p2 p3 ⊢
        rw [p1, if_pos rfl]
        have q := p2 r hr
        have put0 : putS e st r c 0 r = st 0 r + 1 := by unfold putS; rw [u2_ne (by omega), u2_ne (by omega), u2_eq]
        have put1 : putS e st r c 1 r = st 1 r + e 19 c := by unfold putS; rw [u2_ne (by omega), u2_eq]
        have put2 : putS e st r c 2 r = e 17 c := by unfold putS; rw [u2_eq]
        rw [put0, put1, put2] at q
        have e19 : gi υ 19 c = e 19 c := by rw [u1 19 (by decide), t1 _ _ (by decide) (by decide) (by decide) (by decide)]; exact (hE.2.2.1 c hc).2
        rw [q.1, q.2.1, e19, Int32.add_sub_cancel, Int32.add_sub_cancel]
        generalize hω : sI (sI υ 113 r (st 0 r)) 114 r (st 1 r) = ω
        have w1 : ∀ k j, k ≠ 113 → k ≠ 114 → gi ω k j = gi υ k j := by
          intro k j h1 h2
          rw [← hω, gi_ne h2, gi_ne h1]
        have wE : fitE e x R ω := by
          refine ⟨?_, ?_, fun c hc => ?_, fun r hr => ?_⟩
          · rw [w1 _ _ (by decide) (by decide), u1 _ (by decide)]; exact tE.1
          · rw [w1 _ _ (by decide) (by decide), u1 _ (by decide)]; exact tE.2.1
          · rw [w1 _ _ (by decide) (by decide), w1 _ _ (by decide) (by decide), u1 _ (by decide), u1 _ (by decide)]; exact tE.2.2.1 c hc
          · rw [w1 _ _ (by omega) (by omega), u1 _ (by omega)]; exact tE.2.2.2 r hr
        have wR : RS ω i st := by
          intro r' hr'
          by_cases hrr : r' = r
          · subst hrr
            refine ⟨?_, ?_, fun h => ?_, p, a4, by omega, a5⟩
            · rw [← hω, gi_ne (by decide), gi_eq]
            · rw [← hω, gi_eq]
            · rw [w1 _ _ (by decide) (by decide), q.2.2.1 (by rw [a4, nI_1]; exact nI_ne0 (by omega) (by omega))]
              unfold opnS at ho
              rw [decide_eq_false h, Bool.false_or, Bool.and_eq_true] at ho
              exact (of_decide_eq_true ho.1).symm
          · obtain ⟨b1, b2, b3, b4⟩ := p2 r' hr'
            have hput : ∀ k, putS e st r c k r' = st k r' := fun k => by unfold putS; rw [u2_ne (by omega), u2_ne (by omega), u2_ne (by omega)]
            rw [hput] at b1 b2
            rw [hput, hput] at b3
            refine ⟨?_, ?_, fun h => ?_, (hR r' hr').2.2.2⟩
            · rw [← hω, gi_ne (by decide), gi_nj hrr]; exact b1
            · rw [← hω, gi_nj hrr, gi_ne (by decide)]; exact b2
            · rw [w1 _ _ (by decide) (by decide)]; exact b3 h
        refine (ih (r + 1) m ω (by omega) wE (fun j hj => by rw [w1 _ _ (by decide) (by decide), u1 _ (by decide)]; exact t111 j hj) wR).mono (fun a ha => ?_)
        have hsame : ∀ j, j < i → gi ω 112 j = gi σ 112 j := fun j hj => by rw [w1 _ _ (by decide) (by decide), p3 j (by omega), t112 j hj]
        show fitP σ a.2 e x R i st _ a.1
        simp only [Option.map_none]
        generalize (List.range' (r + 1) k).findSome? _ = o at ha ⊢
        cases o with
        | none => exact ⟨ha.1, ha.2.1, fun j hj => (ha.2.2 j hj).trans (hsame j hj)⟩
        | some t => exact ⟨ha.1, fun j hj => (ha.2.1 j hj).trans (hsame j hj), ha.2.2⟩
    · rw [if_neg ho]
      simp only [if_neg ho]
      exact ih (r + 1) m σ (by omega) hE h111 hR
theorem fits_ok {e : TB} {x R tot : Nat} (hx : x < 8) (hRR : R ≤ 3) (htot : tot ≤ 6) : ∀ (cs : List Nat) (i m : Nat) (st : TB) (σ : PS), i + cs.length = tot → (∀ c ∈ cs, c < 6) → fitE e x R σ → (∀ j, j < cs.length → gi σ 111 (i + j) = nI (cs.getD j 0)) → RS σ i st → hO (fX3_fits (m + cs.length + 1) (nI i) (nI tot) σ) (fun q => fitP σ q.2 e x R i st (fitS e x R cs st) q.1) := by
  intro cs
  induction cs with
  | nil =>
    intro i m st σ hi hc hE h111 hR
    simp only [List.length_nil, Nat.add_zero] at hi
    subst hi
    rw [fX3_fits]
    unfold gX3_fits
    rw [if_pos (nI_le (Nat.le_refl _) (by omega))]
    exact ⟨_, rfl, rfl, fun _ _ => rfl, fun j hj => by simp at hj⟩
  | cons c cs ih =>
    intro i m st σ hi hc hE h111 hR
    simp only [List.length_cons] at hi h111
    have hc6 := hc c List.mem_cons_self
    rw [List.length_cons, fX3_fits]
    unfold gX3_fits
    rw [if_neg (nI_ge (by omega) (by omega)), if_pos (r_lt (k := 6) (by rfl) (by omega) (by decide)), gd_t (inb_nI (by omega) (by decide)), nI_clamp (by omega)]
    have h0 := h111 0 (by omega)
    rw [Nat.add_zero] at h0
    rw [h0]
    obtain ⟨m2, hm2⟩ := FU_k (R + 1) (by omega)
    rw [hm2, show fitS e x R (c :: cs) st = (List.range' 0 R).findSome? (fun r => if opnS e x st r c = true then (fitS e x R cs (putS e st r c)).map (fun l => r :: l) else none) by rw [fitS, List.range_eq_range']]
    refine fits23_ok (rf := fX3_fits (m + (cs.length + 1))) hx hRR (by omega) hc6 (fun a b σ q h => frX3_fits _ _ _ _ _ h) ?_ R 0 m2 σ (by omega) hE (fun j hj => ?_) hR
    · intro st' τ tE t111 tR
      exact ih (i + 1) m st' τ (by omega) (fun c h => hc c (List.mem_cons_of_mem _ h)) tE t111 tR
    · rw [show i + 1 + j = i + (j + 1) by omega]
      exact h111 (j + 1) (by omega)
