/-! the reference's read from its entry -/
def R10 (s : Nat) (F : FQ) (σ : PS) (r : Int32 × PS) : Prop := gi r.2 132 2 = 0 ∧ (∃ n g, CRn s n g r.2) ∧ ((F.1 = 0 ∧ F.2.2.2 = -1 ∧ r.1 = 0 ∧ gi r.2 132 17 = -1 ∧ gi r.2 132 18 = nI s ∧ gi r.2 132 58 = -1 ∧ gi r.2 140 s = nI F.2.2.1.length ∧ bmR r.2 s 0 F.2.2.1 ∧ giF (okg s) σ r.2) ∨ (((F.1 = 0 ∧ F.2.2.2 ≠ -1 ∧ r.1 = 5 ∧ gi r.2 132 17 = F.2.2.2) ∨ (F.1 ≠ 0 ∧ r.1 = nI F.1 ∧ gi r.2 132 17 = nI F.2.1)) ∧ giF (okf s) σ r.2))
theorem R9.up {s : Nat} {F : FQ} {σ σ1 : PS} {r : Int32 × PS} (h : R9 s F σ1 r) (f : giF (okf s) σ σ1) (h2 : gi σ1 132 2 = 0) : R10 s F σ r := by
  obtain ⟨a1, a2, a3⟩ := h
  refine ⟨by rw [a1]; exact h2, a2, ?_⟩
  rcases a3 with ⟨b1, b2, b3, b4, b5, b6, b7, b8, b9⟩ | ⟨b1, b2⟩
  · exact Or.inl ⟨b1, b2, b3, b4, b5, b6, b7, b8, (f.mono (fun k j z => Or.inl z)).tr b9⟩
  · exact Or.inr ⟨b1, f.tr b2⟩
theorem giF.i {ok : Nat → Nat → Prop} {σ τ : PS} {k j : Nat} {x : Int32} (h : giF ok σ τ) (hk : ok k j) : giF ok σ (sI τ k j x) := by
  refine ⟨fun a i q => ?_, fun i => by rw [gl_sI]; exact h.2.1 i, h.2.2⟩
  rw [← h.1 a i q, gi_sI]
  by_cases z : a = k
  · rw [if_pos z, if_neg (fun y => q (by rw [z, y]; exact hk))]
  · rw [if_neg z]
theorem okf_2 {s j : Nat} (h : j = 2 ∨ j = 4 ∨ j = 10 ∨ j = 17 ∨ j = 19) : okf s 132 j := Or.inr (Or.inl ⟨rfl, h⟩)
theorem okf_c {s j : Nat} (h : j = 11 ∨ j = 12 ∨ j = 13 ∨ j = 14 ∨ j = 15 ∨ j = 16 ∨ j = 33 ∨ j = 37) : okf s 132 j := Or.inl (okc_2 h)
theorem nI500 (a : Nat) : (500 : Int32) * nI a = nI (500 * a) := by
  rw [show (500 : Int32) = nI 500 from rfl, nI_mul]
theorem r10 {f : Nat → Int32} {n l : Nat} (hn : n ≤ 2000) (hl : l ≤ 1) : ∀ (q m i : Nat) (σ : PS), i + q = n → gi σ 132 4 = nI n → (∀ j, j < i → gi σ 134 j &&& 255 = f j &&& 255) → (∀ j, j < n → gi σ 133 j &&& 255 = f j &&& 255) → gi σ 132 18 = nI l → kyG σ → hO (fX9_read_10 (m + q + 1) (nI i) σ) (R10 (1 - l) (finR (kdS (txS f n) n) (toS (txS f n) n) (vaS (txS f n) n) 0 A0) σ) := by
  intro q
  induction q with
  | zero =>
    intro m i σ hi h4 h134 h133 h18 hky
    have hin : i = n := by omega
    subst hin
    rw [fX9_read_10, h4, if_pos (nI_le (Nat.le_refl _) (by omega))]
    unfold fX9_cut
    generalize hτ : sI (sI σ 132 2 0) 132 10 0 = τ
    have f0 : giF (okf (1 - l)) σ τ := by
      rw [← hτ]
      exact giF.i (giF.i ⟨fun _ _ _ => rfl, fun _ => rfl, rfl, rfl⟩ (okf_2 (by decide))) (okf_2 (by decide))
    have t2 : gi τ 132 2 = 0 := by rw [← hτ, gi_nj (by decide), gi_eq]
    have t4 : gi τ 132 4 = nI i := by rw [← hτ, gi_nj (by decide), gi_nj (by decide)]; exact h4
    have t18 : gi τ 132 18 = nI l := by rw [← hτ, gi_nj (by decide), gi_nj (by decide)]; exact h18
    have cu : cuI (txS f i) i 0 τ τ := by
      refine ⟨frC.rf, t4, by rw [← hτ, gi_eq]; rfl, ?_, fun j hj => ?_, fun j hj => by omega⟩
      · funext p
        unfold txS
        by_cases z : p < i
        · rw [if_pos z, if_pos z, ← hτ, gi_ne (by decide), gi_ne (by decide)]; exact h134 p z
        · rw [if_neg z, if_neg z]
      · rw [← hτ, gl_sI, gl_sI]; exact hky j hj
    obtain ⟨mm, hmm⟩ := FU_k (i + 1) (by omega)
    have cl := cut_loop (f := f) (σ := τ) hn i mm 0 0 τ (by omega) (by omega) (by omega) rfl cu
    rw [show mm + i + 1 = FU by omega] at cl
    refine hO.then cl (fun υ ⟨fc, c, hc, tk, hce⟩ => ?_)
    have u18 : gi υ 132 18 = nI l := by rw [fc.1 132 18 (by decide) (by decide) (by decide) (by intro _; decide)]; exact t18
    have u2' : gi υ 132 2 = 0 := by rw [fc.1 132 2 (by decide) (by decide) (by decide) (by intro _; decide)]; exact t2
    have f1 : giF (okf (1 - l)) σ υ := by
      refine f0.tr ⟨fun k j z => ?_, fc.2.1, fc.2.2⟩
      have zz : ¬ ((k = 132 ∧ (j = 2 ∨ j = 4 ∨ j = 10 ∨ j = 17 ∨ j = 19)) ∨ (134 ≤ k ∧ k ≤ 137)) := fun y => z (Or.inr y)
      exact fc.1 k j (by omega) (by omega) (by omega) (by omega)
    have e1 : (1 : Int32) - nI l = nI (1 - l) := nI_sub (a := 1) hl
    simp (disch := decide) only [gi_ne, gi_nj, gi_eq]
    rw [u18, e1, gd_t (inb_nI (by omega) (by decide)), gd_t (inb_nI (by omega) (by decide)), nI_clamp (by omega), nI500]
    generalize hω : sI (sI (sI (sI (sI (sI (sI (sI υ 132 11 0) 132 12 0) 132 13 0) 132 15 0) 132 19 (nI (1 - l))) 140 (1 - l) 0) 147 (1 - l) 0) 132 33 (nI (500 * (1 - l))) = ω
    have f2 : giF (okf (1 - l)) σ ω := by
      rw [← hω]
      exact (((((((f1.i (okf_c (by decide))).i (okf_c (by decide))).i (okf_c (by decide))).i (okf_c (by decide))).i (okf_2 (by decide))).i (Or.inl okc_0)).i (Or.inl (Or.inr (Or.inl ⟨Or.inr rfl, rfl⟩)))).i (okf_c (by decide))
    have w2 : gi ω 132 2 = 0 := by rw [← hω]; simp (disch := decide) only [gi_ne, gi_nj, gi_eq]; exact u2'
    have gt : ∀ k j, 135 ≤ k → k ≤ 137 → gi ω k j = gi υ k j := by
      intro k j k1 k2
      rw [← hω]
      simp (disch := omega) only [gi_ne]
    have hR : RC (kdS (txS f i) i) (toS (txS f i) i) (vaS (txS f i) i) (1 - l) 0 0 0 [] (-1) ω := by
      refine ⟨⟨by omega, fun j hj => by omega⟩, ⟨?_, ?_, ?_, ?_, ?_⟩, Or.inl ⟨rfl, ?_⟩, ⟨by omega, by omega⟩, ⟨by simp, ?_, ?_⟩, fun k r hk => by simp at hk, fun x hx => by omega, fun x hx hz => ?_⟩
      · rw [← hω]; simp (disch := decide) only [gi_ne, gi_nj, gi_eq]; rfl
      · rw [← hω]; simp (disch := decide) only [gi_ne, gi_nj, gi_eq]
      · rw [← hω]; simp (disch := decide) only [gi_ne, gi_nj, gi_eq]
      · rw [← hω]; simp (disch := decide) only [gi_ne, gi_nj, gi_eq]
      · rw [← hω, gi_eq]; rfl
      · rw [← hω]; simp (disch := decide) only [gi_ne, gi_nj, gi_eq]
      · rw [← hω, gi_ne (by decide), gi_ne (by decide), gi_eq]; rfl
      · rw [← hω, gi_ne (by decide), gi_eq]; rfl
      · rw [gt _ _ (by decide) (by decide), gt _ _ (by decide) (by decide), gt _ _ (by decide) (by decide)]
        refine tk x ?_
        rcases hce with z | ⟨z1, z2⟩
        · omega
        · by_cases y : x < c
          · exact y
          · exact absurd z2 (hz (c - 1) (by omega))
    obtain ⟨m3, hm3⟩ := FU_k (401 + 1) (by decide)
    rw [hm3, ← Nat.add_assoc]
    refine (r107 (σ0 := ω) (by omega) (fun x => tkK_le _ _ _) (fun x hx => tkV_bd hx) (fun a b hab hz => to_mono b a hab hz) (fun x => by have := (ps_le (f := f) (n := i) x).2; omega) 401 m3 0 0 0 [] (-1) ω (by omega) hR A0_wf rfl frR.rf).mono (fun r z => z.up f2 w2)
  | succ q ih =>
    intro m i σ hi h4 h134 h133 h18 hky
    rw [show m + (q + 1) + 1 = (m + q + 1) + 1 by omega, fX9_read_10, h4, if_neg (nI_ge (by omega) (by omega)), gd_t (inb_nI (by omega) (by decide)), gd_t (inb_nI (by omega) (by decide)), nI_clamp (by omega), nI_1]
    have fr : giF (okf (1 - l)) σ (sI σ 134 i (vp_nar .byte (gi σ 133 i))) := giF.i ⟨fun _ _ _ => rfl, fun _ => rfl, rfl, rfl⟩ (Or.inr (Or.inr ⟨by decide, by decide⟩))
    refine (ih m (i + 1) _ (by omega) ?_ ?_ ?_ ?_ ?_).mono (fun r ⟨z1, z2, z3⟩ => ⟨z1, z2, ?_⟩)
    · rw [gi_ne (by decide)]; exact h4
    · intro j hj
      by_cases z : j = i
      · rw [z, gi_eq, nar255]; exact h133 i (by omega)
      · rw [gi_nj z]; exact h134 j (by omega)
    · intro j hj
      rw [gi_ne (by decide)]; exact h133 j hj
    · rw [gi_ne (by decide)]; exact h18
    · intro j hj
      rw [gl_sI]; exact hky j hj
    · rcases z3 with ⟨b1, b2, b3, b4, b5, b6, b7, b8, b9⟩ | ⟨b1, b2⟩
      · exact Or.inl ⟨b1, b2, b3, b4, b5, b6, b7, b8, (fr.mono (fun k j z => Or.inl z)).tr b9⟩
      · exact Or.inr ⟨b1, fr.tr b2⟩
theorem read9_ok {f : Nat → Int32} {n l : Nat} {σ : PS} (hn : n ≤ 2000) (hl : l ≤ 1) (h2 : gi σ 132 2 = nI n) (h133 : ∀ j, j < n → gi σ 133 j &&& 255 = f j &&& 255) (h18 : gi σ 132 18 = nI l) (hky : kyG σ) : hO (fX9_read σ) (R10 (1 - l) (finR (kdS (txS f n) n) (toS (txS f n) n) (vaS (txS f n) n) 0 A0) σ) := by
  unfold fX9_read
  rw [h2]
  obtain ⟨m, hm⟩ := FU_k (n + 1) (by omega)
  rw [hm, ← Nat.add_assoc]
  have fr : giF (okf (1 - l)) σ (sI σ 132 4 (nI n)) := giF.i ⟨fun _ _ _ => rfl, fun _ => rfl, rfl, rfl⟩ (okf_2 (by decide))
  refine (r10 (f := f) hn hl n m 0 (sI σ 132 4 (nI n)) (by omega) gi_eq (fun j hj => by omega) ?_ ?_ ?_).mono (fun r ⟨z1, z2, z3⟩ => ⟨z1, z2, ?_⟩)
  · intro j hj
    rw [gi_ne (by decide)]; exact h133 j hj
  · rw [gi_nj (by decide)]; exact h18
  · intro j hj
    rw [gl_sI]; exact hky j hj
  · rcases z3 with ⟨b1, b2, b3, b4, b5, b6, b7, b8, b9⟩ | ⟨b1, b2⟩
    · exact Or.inl ⟨b1, b2, b3, b4, b5, b6, b7, b8, (fr.mono (fun k j z => Or.inl z)).tr b9⟩
    · exact Or.inr ⟨b1, fr.tr b2⟩
