theorem op_read : OPS3 fX8_read fX9_read := by
  rintro σ ⟨⟨n, a, c, b, f, s, l, iA, iP, iL, iF, iB, iC, iR⟩, hky, hcr⟩
  obtain ⟨n1, n2, n3, n4⟩ := iA
  obtain ⟨b1, b2, b3, b4, b5, b6⟩ := iB
  have hd : drO σ = 116 ∨ drO σ = 124 := by unfold isBk at b2; simpa using b2
  have hk : bkO σ = 116 ∨ bkO σ = 124 := by unfold isBk at b1; simpa using b1
  have hs := b5.1
  obtain ⟨⟨y, σ3⟩, e1, pp, fp⟩ := parse_ok hd ⟨n1, n2⟩
  have fg := (frX4_parse b2 σ (y, σ3) e1).2.1
  generalize hF : finR (kdS (txS (gi σ 2) n) n) (toS (txS (gi σ 2) n) n) (vaS (txS (gi σ 2) n) n) 0 A0 = F at pp
  simp only at pp fp fg
  unfold fX8_read
  rw [gd_t b2, e1]
  simp only [Option.bind_some]
  have hg3 : ∀ j, gl σ3 139 j = gl σ0 139 j := fun j => by rw [fg 139 (by decide) j]; exact hky j
  have hc3 : ∀ k j, k ≠ 38 → k ≠ 39 → k ≠ 40 → (k < drO σ ∨ drO σ + 6 < k) → gi σ3 k j = gi σ k j := fp.1
  have ref : ∀ τ, (∀ k j, (k = 1 → j ≠ 1) → (k = 41 → j ≠ 13) → gi τ k j = gi σ3 k j) → (∀ j, gl τ 139 j = gl σ3 139 j) → hO (fX9_read τ) (R10 (1 - s) F τ) := by
    intro τ t1 t2
    rw [← hF]
    refine read9_ok n1 hs ?_ ?_ ?_ ?_
    · rw [t1 _ _ (by decide) (by decide), hc3 _ _ (by decide) (by decide) (by decide) (by omega)]; exact n3
    · intro j hj
      rw [t1 _ _ (by omega) (by omega), hc3 _ _ (by decide) (by decide) (by decide) (by omega), n4 j hj]
    · rw [t1 _ _ (by decide) (by decide), hc3 _ _ (by decide) (by decide) (by decide) (by omega)]; exact b5.2.2.1
    · intro j hj
      rw [t2, hg3]; exact kyG_0 j hj
  have asm : ∀ τ ρ, (∀ k j, (k = 1 → j ≠ 1) → (k = 41 → j ≠ 13) → gi τ k j = gi σ3 k j) → (∀ j, gl τ 139 j = gl σ3 139 j) → giF (okg (1 - s)) τ ρ → gi τ 1 1 = 0 → gi ρ 132 2 = 0 → (∃ n g, CRn (1 - s) n g ρ) → gi ρ 132 17 = gi σ3 38 7 → ∀ s' l', IB l' s' ρ → IC a c f l' ρ → IR a c f l' ρ → Inv3 ρ := by
    intro τ ρ t1 t2 t3 t4 t5 t6 t7 s' l' u1 u2 u3
    have gn : ∀ k j, ¬ okg (1 - s) k j → (k = 1 → j ≠ 1) → (k = 41 → j ≠ 13) → k ≠ 38 → k ≠ 39 → k ≠ 40 → (k < drO σ ∨ drO σ + 6 < k) → gi ρ k j = gi σ k j := fun k j z1 z2 z3 z4 z5 z6 z7 => by rw [t3.1 k j z1, t1 k j z2 z3, hc3 k j z4 z5 z6 z7]
    refine ⟨⟨0, a, c, b, f, s', l', ⟨by omega, ?_, t5, fun j hj => by omega⟩, ?_, IL_fr iL (fun k j k1 k2 => ?_) (fun k j k1 k2 => ?_) ?_ ?_ ?_, IF_fr iF (fun k j k1 k2 => ?_) (fun k j k1 k2 => ?_) ?_, u1, u2, u3⟩, fun j => ?_, fun x hx => ?_⟩
    · rw [t3.1 1 1 (nokg_x (by omega))]; exact t4
    · show gi ρ 38 7 = gi ρ 132 17
      rw [t7, t3.1 38 7 (nokg_x (by omega)), t1 _ _ (by decide) (by decide)]
    · exact gn _ _ (nokg_x (by omega)) (by omega) (by omega) (by omega) (by omega) (by omega) (by omega)
    · exact gn _ _ (nokg_x (by omega)) (by omega) (by omega) (by omega) (by omega) (by omega) (by omega)
    · exact gn _ _ (nokg_y (by decide) (by decide)) (by omega) (by omega) (by omega) (by omega) (by omega) (by omega)
    · exact gn _ _ (nokg_y (by decide) (by decide)) (by omega) (by omega) (by omega) (by omega) (by omega) (by omega)
    · exact gn _ _ (nokg_y (by decide) (by decide)) (by omega) (by omega) (by omega) (by omega) (by omega) (by omega)
    · exact gn _ _ (nokg_x (by omega)) (by omega) (by omega) (by omega) (by omega) (by omega) (by omega)
    · exact gn _ _ (nokg_x (by omega)) (by omega) (by omega) (by omega) (by omega) (by omega) (by omega)
    · exact gn _ _ (nokg_y (by decide) (by decide)) (by omega) (by omega) (by omega) (by omega) (by omega) (by omega)
    · rw [t3.2.1, t2]; exact hg3 j
    · by_cases z : x = s
      · subst z
        obtain ⟨nn, gg, hcn⟩ := hcr x hx
        exact ⟨nn, gg, CRn_fr hcn (gn _ _ (nokg_0 hx (Or.inl rfl)) (by omega) (by omega) (by omega) (by omega) (by omega) (by omega)) (gn _ _ (nokg_0 hx (Or.inr rfl)) (by omega) (by omega) (by omega) (by omega) (by omega) (by omega)) (fun k i k1 k2 k3 => gn _ _ (nokg_1 hx k1 k2 (by have := hcn.1.1; omega)) (by omega) (by omega) (by omega) (by omega) (by omega) (by omega)) (fun k i k1 k2 k3 => gn _ _ (nokg_2 hx k1 k2 (by have := hcn.1.2.1; omega)) (by omega) (by omega) (by omega) (by omega) (by omega) (by omega))⟩
      · have : x = 1 - s := by omega
        rw [this]; exact t6
  -- a text that is refused
  have bad : ∀ (hy : ¬ y = 0) (hq : ∀ r : Int32 × PS, R10 (1 - s) F (sI σ3 1 1 0) r → r.1 = y ∧ gi r.2 132 17 = gi σ3 38 7 ∧ giF (okf (1 - s)) (sI σ3 1 1 0) r.2), hO (some (y, sI σ3 1 1 0)) (fun q => hO (fX9_read q.2) (fun r => q.1 = r.1 ∧ Inv3 r.2)) := by
    intro hy hq
    have t1 : ∀ k j, (k = 1 → j ≠ 1) → (k = 41 → j ≠ 13) → gi (sI σ3 1 1 0) k j = gi σ3 k j := by
      intro k j z1 z2
      by_cases z : k = 1
      · subst z; exact gi_nj (z1 rfl)
      · exact gi_ne z
    refine ⟨_, rfl, (ref (sI σ3 1 1 0) t1 (fun j => rfl)).mono (fun r hr => ?_)⟩
    obtain ⟨q1, q2, q3⟩ := hq r hr
    have q4 : giF (okg (1 - s)) (sI σ3 1 1 0) r.2 := q3.mono (fun k j z => Or.inl z)
    refine ⟨q1.symm, asm (sI σ3 1 1 0) r.2 t1 (fun j => rfl) q4 gi_eq hr.1 hr.2.1 q2 s l ?_ ?_ ?_⟩
    · have gn : ∀ k j, ¬ okf (1 - s) k j → (k = 1 → j ≠ 1) → (k = 41 → j ≠ 13) → k ≠ 38 → k ≠ 39 → k ≠ 40 → (k < drO σ ∨ drO σ + 6 < k) → gi r.2 k j = gi σ k j := fun k j z1 z2 z3 z4 z5 z6 z7 => by rw [q3.1 k j z1, t1 k j z2 z3, hc3 k j z4 z5 z6 z7]
      have hb2 : bkO r.2 = bkO σ := by rw [q3.2.2.1]; exact fp.2.1
      have hd2 : drO r.2 = drO σ := by rw [q3.2.2.2]; exact fp.2.2
      obtain ⟨nn, gg, hcn⟩ := hcr s hs
      have hnn : nn = l.length := by
        have h1 := hcn.1.2.2.1
        rw [b5.2.2.2.1] at h1
        exact (nIeq_lit h1 (by have := b5.2.1; omega) (by have := hcn.1.1; omega)).symm
      refine ⟨by rw [hb2]; exact b1, by rw [hd2]; exact b2, by rw [hb2, hd2]; exact b3, ?_, ⟨hs, b5.2.1, ?_, ?_, ?_, b5.2.2.2.2.2⟩, b6⟩
      · rw [hb2]
        exact BKC_fr (fun i hi j => gn _ _ (fun z => nokg_x (s := 1 - s) (by omega) (Or.inl z)) (by omega) (by omega) (by omega) (by omega) (by omega) (by omega)) b4
      · rw [gn _ _ (nokf_y (by decide)) (by omega) (by omega) (by omega) (by omega) (by omega) (by omega)]; exact b5.2.2.1
      · rw [gn _ _ (fun z => nokg_0 hs (Or.inl rfl) (Or.inl z)) (by omega) (by omega) (by omega) (by omega) (by omega) (by omega)]; exact b5.2.2.2.1
      · exact bmR_half hs hcn (fun k i k1 k2 k3 => gn _ _ (fun z => nokg_1 hs k1 k2 k3 (Or.inl z)) (by omega) (by omega) (by omega) (by omega) (by omega) (by omega)) (fun k i k1 k2 k3 => gn _ _ (fun z => nokg_2 hs k1 k2 k3 (Or.inl z)) (by omega) (by omega) (by omega) (by omega) (by omega) (by omega)) (fun j j1 j2 => ⟨gn _ _ (fun z => nokg_3 hs (Or.inl rfl) j1 j2 (Or.inl z)) (by omega) (by omega) (by omega) (by omega) (by omega) (by omega), gn _ _ (fun z => nokg_3 hs (Or.inr rfl) j1 j2 (Or.inl z)) (by omega) (by omega) (by omega) (by omega) (by omega) (by omega)⟩) (by omega) b5.2.2.2.2.1
    · have gn : ∀ k j, k < 107 ∨ 156 ≤ k → (k = 1 → j ≠ 1) → k ≠ 38 → k ≠ 39 → k ≠ 40 → gi r.2 k j = gi σ k j := by
        intro k j z1 z2 z4 z5 z6
        rw [q3.1 k j (fun z => nokg_x (s := 1 - s) (by omega) (Or.inl z))]
        rw [show gi (sI σ3 1 1 0) k j = gi σ3 k j by
          by_cases z : k = 1
          · subst z; exact gi_nj (z2 rfl)
          · exact gi_ne z, hc3 k j z4 z5 z6 (by omega)]
      exact IC_fr iL.1.1 iL.1.2.1 iC (gn _ _ (by omega) (by omega) (by omega) (by omega) (by omega)) (fun k j k1 k2 => gn _ _ (by omega) (by omega) (by omega) (by omega) (by omega)) (fun k j k1 k2 => gn _ _ (by omega) (by omega) (by omega) (by omega) (by omega)) (fun k j _ k1 k2 => gn _ _ (by omega) (by omega) (by omega) (by omega) (by omega))
    · have gn : ∀ k j, k < 107 ∨ 156 ≤ k → (k = 1 → j ≠ 1) → k ≠ 38 → k ≠ 39 → k ≠ 40 → gi r.2 k j = gi σ k j := by
        intro k j z1 z2 z4 z5 z6
        rw [q3.1 k j (fun z => nokg_x (s := 1 - s) (by omega) (Or.inl z))]
        rw [show gi (sI σ3 1 1 0) k j = gi σ3 k j by
          by_cases z : k = 1
          · subst z; exact gi_nj (z2 rfl)
          · exact gi_ne z, hc3 k j z4 z5 z6 (by omega)]
      refine IR_fr iR ?_ (fun k j k1 k2 => gn _ _ (by omega) (by omega) (by omega) (by omega) (by omega)) (fun k j k1 k2 => gn _ _ (by omega) (by omega) (by omega) (by omega) (by omega)) (fun k j _ k1 k2 => gn _ _ (by omega) (by omega) (by omega) (by omega) (by omega))
      rw [q3.1 132 58 (nokf_y (by decide)), t1 _ _ (by decide) (by decide), hc3 _ _ (by decide) (by decide) (by decide) (by omega)]
  rcases pp with ⟨p1, p2, p3, p4, p5⟩ | ⟨p1, p2, p3⟩
  · by_cases hw : F.2.2.2 = -1
    · rw [if_pos hw] at p2
      subst p2
      rw [if_pos rfl]
      have hb3 : bkO (sI σ3 1 1 0) = bkO σ := fp.2.1
      have hd3 : drO (sI σ3 1 1 0) = drO σ := fp.2.2
      rw [hb3, hd3, gd_t b1, gd_t b2, forget_eq]
      simp only [Option.bind_some]
      generalize hτ : sI (sD (sB (sI σ3 1 1 0) (drO σ)) (bkO σ)) 41 13 (-1) = τ
      have t1 : ∀ k j, (k = 1 → j ≠ 1) → (k = 41 → j ≠ 13) → gi τ k j = gi σ3 k j := by
        intro k j z1 z2
        have e : gi τ k j = gi (sI σ3 1 1 0) k j := by
          rw [← hτ]
          by_cases z : k = 41
          · subst z; rw [gi_nj (z2 rfl)]; rfl
          · rw [gi_ne z]; rfl
        rw [e]
        by_cases z : k = 1
        · subst z; exact gi_nj (z1 rfl)
        · exact gi_ne z
      have t2 : ∀ j, gl τ 139 j = gl σ3 139 j := fun j => by rw [← hτ]; rfl
      have tb' : bkO τ = drO σ := by rw [← hτ]; rfl
      have td' : drO τ = bkO σ := by rw [← hτ]; rfl
      have t11 : gi τ 1 1 = 0 := by
        rw [← hτ, gi_ne (by decide)]
        show gi (sI σ3 1 1 0) 1 1 = 0
        exact gi_eq
      have t41 : gi τ 41 13 = -1 := by rw [← hτ, gi_eq]
      refine ⟨_, rfl, (ref τ t1 t2).mono (fun r hr => ?_)⟩
      obtain ⟨r1, r2, r3⟩ := hr
      rcases r3 with ⟨c1, c2, c3, c4, c5, c6, c7, c8, c9⟩ | ⟨c1, c2⟩
      · refine ⟨c3.symm, asm τ r.2 t1 t2 c9 t11 r1 r2 (by rw [c4, p3, hw]) (1 - s) F.2.2.1 ?_ (Or.inl ?_) (Or.inl c6)⟩
        · have hb2 : bkO r.2 = drO σ := by rw [c9.2.2.1]; exact tb'
          have hd2 : drO r.2 = bkO σ := by rw [c9.2.2.2]; exact td'
          refine ⟨by rw [hb2]; exact b2, by rw [hd2]; exact b1, by rw [hb2, hd2]; exact fun z => b3 z.symm, ?_, ⟨by omega, p4.1, c5, c7, c8, p4.2.2.2⟩, p5⟩
          rw [hb2]
          refine BKC_fr (fun i hi j => ?_) p4
          rw [c9.1 _ _ (nokg_x (by omega)), t1 _ _ (by omega) (by omega)]
        · rw [c9.1 _ _ (nokg_x (by omega))]; exact t41
      · rcases c1 with ⟨z1, z2, _⟩ | ⟨z1, _⟩
        · exact absurd hw z2
        · exact absurd p1 z1
    · rw [if_neg hw] at p2
      subst p2
      rw [if_neg (show ¬ (5 : Int32) = 0 by decide)]
      refine bad (by decide) (fun r hr => ?_)
      rcases hr.2.2 with ⟨c1, c2, _⟩ | ⟨c1, c2⟩
      · exact absurd c2 hw
      · rcases c1 with ⟨z1, z2, z3, z4⟩ | ⟨z1, _⟩
        · exact ⟨z3, by rw [z4, p3], c2⟩
        · exact absurd p1 z1
  · have hle : F.1 ≤ 2 := by
      rw [← hF]
      unfold finR
      exact finQ_le _ _
    have hy : ¬ y = 0 := by rw [p2]; exact e_ne (k := 0) (by rfl) p1 (by omega) (by decide)
    rw [if_neg hy]
    refine bad hy (fun r hr => ?_)
    rcases hr.2.2 with ⟨c1, _⟩ | ⟨c1, c2⟩
    · exact absurd c1 p1
    · rcases c1 with ⟨z1, _⟩ | ⟨z1, z2, z3⟩
      · exact absurd z1 p1
      · exact ⟨by rw [z2, p2], by rw [z3, p3], c2⟩
