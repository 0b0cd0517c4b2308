/-! the reference's rule as a whole -/
theorem t189v {K P : Nat → Nat} {V : Nat → Int32} {s t t0 c g so : Nat} {rs : List RU} {wr lo : Int32} {va : List IT} {re : List RE} {cn : Bool} {op : Nat} {le : List IT} {F : FQ} {σ0 σ : PS} (hs : s ≤ 1) (hK : ∀ i, K i ≤ 26) (hV : ∀ i, K i = 2 → isN (V i) 0 9999) (hr : rs.length < 20) (hso : so < 2) (h : RC K P V s t c g rs wr σ) (c1 : gi σ 141 (20 * s + rs.length) = nI so) (c2 : gi σ 142 (20 * s + rs.length) = (if so = 0 then -1 else lo)) (fr : frR (okc s) σ0 σ) (ht0 : t0 ≤ t) (q3 : wfQ (mkQ 3 (0, (rs, wr), (so, lo, va), (re, cn, op, le)) [] [])) (q6 : finR K P V t (mkQ 3 (0, (rs, wr), (so, lo, va), (re, cn, op, le)) [] []) = F) : hO (fX9_tellRule_189 (nI (20 * s + rs.length)) σ) (TP K P V s t0 F σ0) := by
  unfold fX9_tellRule_189
  rw [gd_t (inb_nI (by omega) (by decide)), gd_t (inb_nI (by omega) (by decide)), nI_clamp (by omega), h.2.1.2.2.2.2, gi_ne (by decide), c1, if_neg (l_nle (k := 2) (by rfl) hso (by decide))]
  have hR := h.cur (k := 143) (by decide) (by decide) (nI (500 * s + c))
  have c1' : gi (sI σ 143 (20 * s + rs.length) (nI (500 * s + c))) 141 (20 * s + rs.length) = nI so := by rw [gi_ne (by decide)]; exact c1
  have c2' : gi (sI σ 143 (20 * s + rs.length) (nI (500 * s + c))) 142 (20 * s + rs.length) = (if so = 0 then -1 else lo) := by rw [gi_ne (by decide)]; exact c2
  have c3' : gi (sI σ 143 (20 * s + rs.length) (nI (500 * s + c))) 143 (20 * s + rs.length) = nI (500 * s + c) := gi_eq
  have fr' : frR (okc s) σ0 (sI σ 143 (20 * s + rs.length) (nI (500 * s + c))) := fr.i (okc_1 (by decide) (by decide) hr)
  generalize sI σ 143 (20 * s + rs.length) (nI (500 * s + c)) = υ at hR c1' c2' c3' fr'
  obtain ⟨⟨z1, z2⟩, ⟨w1, w2, w3, w4, w5⟩, z3, ⟨z4, z5⟩, ⟨z6, z7, z8⟩, z9, z10, z11⟩ := id hR
  have ex := exp_ok hs hK hV z11 z1 z2 q3 w1 w2 w3 w5 z4
  rw [q6] at ex
  refine hO.then ex (fun τ ⟨fr2, hp⟩ => ?_)
  have frc : frR (okc s) σ0 τ := fr'.tr (fr2.mono (fun k j z => okE_c z))
  rcases hp with ⟨t1, it, wt, p0, ⟨p1, p2⟩, p3, p4, p5, p6, ⟨p7, p8, p9⟩, p10, p11, p12⟩ | hfl
  · have hR1 : RC K P V s t1 (c + (it ++ rlE 1 wt).length) g rs wr τ := hR.ex fr2 (by omega) p1 p2 (by omega) p12 p7 p8 p9 (by rw [p10, Nat.add_assoc])
    have g1 : ∀ k j, 141 ≤ k → k ≤ 146 → gi τ k j = gi υ k j := fun k j a1 a2 => fr2.1 k j (by unfold okE; omega)
    exact t213v hs hK hV hr hso hR1 (by rw [g1 _ _ (by decide) (by decide)]; exact c1') (by rw [g1 _ _ (by decide) (by decide)]; exact c2') (by rw [g1 _ _ (by decide) (by decide)]; exact c3') (by omega) (by omega) p11 frc (by omega) p3 p4 p5 p6
  · have rx := RX.ex hR.crn fr2 hfl
    exact (t213_no hs hr (by rw [fr2.1 132 19 (by unfold okE; omega)]; exact w4) ⟨frc, hfl, rx.2⟩).mono (fun x z => z.tp)
theorem t189b {K P : Nat → Nat} {V : Nat → Int32} {s t t0 c g : Nat} {rs : List RU} {wr lo : Int32} {F : FQ} {σ0 σ : PS} (hs : s ≤ 1) (hK : ∀ i, K i ≤ 26) (hV : ∀ i, K i = 2 → isN (V i) 0 9999) (hr : rs.length < 20) (h : RC K P V s t c g rs wr σ) (c1 : gi σ 141 (20 * s + rs.length) = nI 2) (c2 : gi σ 142 (20 * s + rs.length) = lo) (fr : frR (okc s) σ0 σ) (ht0 : t0 ≤ t) (q3 : wfQ (Z2 rs wr lo)) (q6 : finR K P V t (Z2 rs wr lo) = F) : hO (fX9_tellRule_189 (nI (20 * s + rs.length)) σ) (TP K P V s t0 F σ0) := by
  unfold fX9_tellRule_189
  rw [gd_t (inb_nI (by omega) (by decide)), gd_t (inb_nI (by omega) (by decide)), nI_clamp (by omega), h.2.1.2.2.2.2, gi_ne (by decide), c1, if_pos (by decide)]
  exact t213b hs hK hV hr (h.cur (k := 143) (by decide) (by decide) (nI (500 * s + c))) (by rw [gi_ne (by decide)]; exact c1) (by rw [gi_ne (by decide)]; exact c2) gi_eq (fr.i (okc_1 (by decide) (by decide) hr)) ht0 q3 q6
def Z1 (rs : List RU) (wr : Int32) (so : Nat) : QS := ((1, 0), (rs, wr), (so, 0, []), ([], true, 0, []), [], [])
theorem tak0 (rs : List RU) (wr : Int32) (so p : Nat) (v : Int32) (hso : so ≤ 2) : takS (Z0 rs wr) (3 + so) v p = if so = 0 then mkQ 3 (0, (rs, wr), (0, 0, []), ([], true, 0, [])) [] [] else Z1 rs wr so := by
  have : so = 0 ∨ so = 1 ∨ so = 2 := by omega
  rcases this with rfl | rfl | rfl <;> rfl
theorem tak1 (rs : List RU) (wr : Int32) (so p : Nat) (v : Int32) (h1 : 1 ≤ so) (hso : so ≤ 2) : takS (Z1 rs wr so) 2 v p = if so = 2 then Z2 rs (if 0 ≤ v ∧ v ≤ 4 then wr else if wr = -1 then nI p else wr) v else mkQ 3 (0, (rs, if 0 ≤ v ∧ v ≤ 4 then wr else if wr = -1 then nI p else wr), (so, v, []), ([], true, 0, [])) [] [] := by
  have : so = 1 ∨ so = 2 := by omega
  rcases this with rfl | rfl <;> rfl
theorem RC.wr {K P : Nat → Nat} {V : Nat → Int32} {s t c g q : Nat} {rs : List RU} {wr : Int32} {σ : PS} (h : RC K P V s t c g rs wr σ) (hq : q < t) : RC K P V s t c g rs (nI (P q)) (sI (sI σ 132 15 5) 132 16 (nI (P q))) := by
  obtain ⟨⟨a1, a2⟩, ⟨i1, i2, i3, i4, i5⟩, a3, ⟨a4, a5⟩, ⟨a6, a7, a8⟩, a9, a10, a11⟩ := h
  have gn : ∀ k j, k ≠ 132 → gi (sI (sI σ 132 15 5) 132 16 (nI (P q))) k j = gi σ k j := fun k j z => by rw [gi_ne z, gi_ne z]
  have g2 : ∀ j, j ≠ 15 → j ≠ 16 → gi (sI (sI σ 132 15 5) 132 16 (nI (P q))) 132 j = gi σ 132 j := fun j z1 z2 => by rw [gi_nj z2, gi_nj z1]
  have sR : sameR s rs.length g c σ (sI (sI σ 132 15 5) 132 16 (nI (P q))) := ⟨fun k i b1 b2 _ => gn _ _ (by omega), fun k i b1 b2 _ => gn _ _ (by omega), fun j _ _ => ⟨gn _ _ (by decide), gn _ _ (by decide)⟩⟩
  exact ⟨⟨a1, a2⟩, ⟨by rw [g2 _ (by decide) (by decide)]; exact i1, by rw [g2 _ (by decide) (by decide)]; exact i2, by rw [g2 _ (by decide) (by decide)]; exact i3, by rw [g2 _ (by decide) (by decide)]; exact i4, by rw [g2 _ (by decide) (by decide)]; exact i5⟩, Or.inr ⟨q, hq, rfl, by rw [gi_nj (by decide), gi_eq], gi_eq⟩, ⟨a4, a5⟩, ⟨a6, by rw [gn _ _ (by decide)]; exact a7, by rw [gn _ _ (by decide)]; exact a8⟩, bmP_fr a9 sR (Nat.le_refl _) (Nat.le_refl _), RG_fr a10 sR (Nat.le_refl _), TKN_fr a11 (fun k j b1 b2 => gn _ _ (by omega))⟩
theorem t122 {K P : Nat → Nat} {V : Nat → Int32} {s t c g so : Nat} {rs : List RU} {wr : Int32} {F : FQ} {σ0 σ : PS} (hs : s ≤ 1) (hK : ∀ i, K i ≤ 26) (hV : ∀ i, K i = 2 → isN (V i) 0 9999) (hP : ∀ i j, i < j → (∀ q, q < j → K q ≠ 0) → P i < P j) (hP2 : ∀ i, P i ≤ 2000) (hr : rs.length < 20) (hso : so ≤ 2) (h : RC K P V s t c g rs wr σ) (fr : frR (okc s) σ0 σ) (hkt : K t = 3 + so) (q3 : wfQ (Z0 rs wr)) (q6 : finR K P V t (Z0 rs wr) = F) : hO (fX9_tellRule_122 (nI (20 * s + rs.length)) (nI (20 * s + rs.length)) (nI so) σ) (TP K P V s t F σ0) := by
  have ht := h.1.1
  have hm : mayS (Z0 rs wr) (K t) = true := decide_eq_true (by omega)
  have h0 : K t ≠ 0 := by omega
  have hto : ¬ tooS (Z0 rs wr) (K t) = true := by
    intro z
    have := of_decide_eq_true (p := 20 ≤ rs.length) z
    omega
  unfold fX9_tellRule_122
  rw [gd_t (inb_nI (by omega) (by decide)), nI_clamp (by omega)]
  have hR := h.cur (k := 141) (by decide) (by decide) (nI so)
  have c1 : gi (sI σ 141 (20 * s + rs.length) (nI so)) 141 (20 * s + rs.length) = nI so := gi_eq
  have fr1 : frR (okc s) σ0 (sI σ 141 (20 * s + rs.length) (nI so)) := fr.i (okc_1 (by decide) (by decide) hr)
  generalize sI σ 141 (20 * s + rs.length) (nI so) = υ at hR c1 fr1
  by_cases t4 : t = 400
  · obtain ⟨n1, n2⟩ := hR.nextE t4 F (by rw [← q6]; exact fin_too ht hm h0 (Or.inl t4))
    rw [n1]
    simp only [Option.bind_some]
    rw [gd_t (inb_nI (by omega) (by decide)), gd_t (inb_nI (by omega) (by decide)), gi_ne (by decide), gi_ne (by decide), gi_ne (by decide), c1]
    have f : FL F (sI (sI (sI υ 132 13 2) 132 14 (nI (P t))) 142 (20 * s + rs.length) (-1)) := FL_fr n2.1 (fun j => gi_ne (by decide))
    have tx : TX s rs.length g F σ0 (sI (sI (sI υ 132 13 2) 132 14 (nI (P t))) 142 (20 * s + rs.length) (-1)) := ⟨((fr1.i (okc_2 (by decide))).i (okc_2 (by decide))).i (okc_1 (by decide) (by decide) hr), f, CRn_cur n2.2 (by decide) (by decide)⟩
    by_cases s0 : so = 0
    · rw [if_pos (by rw [s0]; decide)]
      refine (t189_no hs hr ?_ tx).mono (fun x z => z.tp)
      rw [gi_ne (by decide), gi_nj (by decide), gi_nj (by decide)]
      exact hR.2.1.2.2.2.1
    · rw [if_neg (r_nle (k := 0) (by rfl) (by omega) (by omega)), must_no f.2.1 f.1.1 f.1.2]
      simp only [Option.bind_some]
      rw [f.2.1, if_neg (r_nle (k := 0) (by rfl) (by have := f.1.1; omega) (by have := f.1.2; omega))]
      exact ⟨_, rfl, tx.tp⟩
  · rw [next_go (by omega) hR.2.1.1]
    simp only [Option.bind_some]
    have hR2 := (hR.next (by omega) h0).cur (k := 142) (by decide) (by decide) (-1)
    have fr2 : frR (okc s) σ0 (sI (sI υ 132 11 (nI (t + 1))) 142 (20 * s + rs.length) (-1)) := (fr1.i (okc_2 (by decide))).i (okc_1 (by decide) (by decide) hr)
    have d1 : gi (sI (sI υ 132 11 (nI (t + 1))) 142 (20 * s + rs.length) (-1)) 141 (20 * s + rs.length) = nI so := by rw [gi_ne (by decide), gi_ne (by decide)]; exact c1
    have d2 : gi (sI (sI υ 132 11 (nI (t + 1))) 142 (20 * s + rs.length) (-1)) 142 (20 * s + rs.length) = -1 := gi_eq
    have hfin := fin_go (P := P) (V := V) (show t < 400 by omega) hm h0 hto
    have hwf := wfQ_take (p := P t) q3 hm h0 hto (hV t)
    rw [hkt, tak0 _ _ _ _ _ hso] at hfin hwf
    rw [q6] at hfin
    rw [gd_t (inb_nI (by omega) (by decide)), gd_t (inb_nI (by omega) (by decide))]
    generalize sI (sI υ 132 11 (nI (t + 1))) 142 (20 * s + rs.length) (-1) = ω at hR2 fr2 d1 d2
    rw [d1]
    by_cases s0 : so = 0
    · rw [if_pos (by rw [s0]; decide)]
      rw [if_pos s0] at hfin hwf
      subst s0
      exact t189v (so := 0) (lo := 0) hs hK hV hr (by decide) hR2 d1 d2 fr2 (by omega) hwf hfin.symm
    · rw [if_neg (r_nle (k := 0) (by rfl) (by omega) (by omega))]
      rw [if_neg s0] at hfin hwf
      have hk := hK (t + 1)
      have hm1 : mayS (Z1 rs wr so) (K (t + 1)) = decide (K (t + 1) = 2) := rfl
      by_cases k2 : K (t + 1) = 2
      · have hm' := hm1.trans (decide_eq_true k2)
        have h01 : K (t + 1) ≠ 0 := by omega
        have hto1 : ¬ tooS (Z1 rs wr so) (K (t + 1)) = true := by
          intro z
          have := of_decide_eq_true (p := K (t + 1) = 25 ∧ 6 ≤ opnW []) z
          omega
        rw [hR2.must_y hK (k := 2) (by rfl) (by decide) k2]
        by_cases t5 : t + 1 = 400
        · obtain ⟨n1, n2⟩ := hR2.nextE t5 F (by rw [hfin]; exact fin_too (by omega) hm' h01 (Or.inl t5))
          rw [n1]
          simp only [Option.bind_some]
          rw [n2.1.2.1, if_neg (r_nle (k := 0) (by rfl) (by have := n2.1.1.1; omega) (by have := n2.1.1.2; omega))]
          exact ⟨_, rfl, (fr2.i (okc_2 (by decide))).i (okc_2 (by decide)), Or.inr ⟨n2.1, _, _, n2.2⟩⟩
        · have hfin1 := fin_go (P := P) (V := V) (show t + 1 < 400 by omega) hm' h01 hto1
          have hwf1 := wfQ_take (p := P (t + 1)) hwf hm' h01 hto1 (hV (t + 1))
          rw [k2, tak1 _ _ _ _ _ (by omega) hso] at hfin1 hwf1
          rw [← hfin] at hfin1
          obtain ⟨v, hv, v1, v2⟩ := hV (t + 1) k2
          have e137 := hR2.tok.2.2 k2
          have e136 := hR2.tok.2.1
          rw [next_go (by omega) hR2.2.1.1]
          simp only [Option.bind_some]
          have hR3 := (hR2.next (by omega) h01).cur (k := 142) (by decide) (by decide) (V (t + 1))
          rw [gi_nj (by decide), hR2.2.1.2.2.1, if_pos (by decide), hR2.2.1.1, gd_t (inb_nI (by omega) (by decide)), gd_t (inb_nI (by omega) (by decide)), gd_t (inb_nI (by omega) (by decide)), nI_clamp (by omega), gi_ne (by decide), gi_ne (by decide), e137]
          have fr3 : frR (okc s) σ0 (sI (sI ω 132 11 (nI (t + 1 + 1))) 142 (20 * s + rs.length) (V (t + 1))) := (fr2.i (okc_2 (by decide))).i (okc_1 (by decide) (by decide) hr)
          have m1 : gi (sI (sI ω 132 11 (nI (t + 1 + 1))) 142 (20 * s + rs.length) (V (t + 1))) 141 (20 * s + rs.length) = nI so := by rw [gi_ne (by decide), gi_ne (by decide)]; exact d1
          have m2 : gi (sI (sI ω 132 11 (nI (t + 1 + 1))) 142 (20 * s + rs.length) (V (t + 1))) 142 (20 * s + rs.length) = V (t + 1) := gi_eq
          have m6 : gi (sI (sI ω 132 11 (nI (t + 1 + 1))) 142 (20 * s + rs.length) (V (t + 1))) 136 (t + 1) = nI (P (t + 1)) := by rw [gi_ne (by decide), gi_ne (by decide)]; exact e136
          generalize sI (sI ω 132 11 (nI (t + 1 + 1))) 142 (20 * s + rs.length) (V (t + 1)) = ψ at hR3 fr3 m1 m2 m6
          have goal : ∀ wr' ξ, wr' = (if 0 ≤ V (t + 1) ∧ V (t + 1) ≤ 4 then wr else if wr = -1 then nI (P (t + 1)) else wr) → RC K P V s (t + 1 + 1) c g rs wr' ξ → frR (okc s) σ0 ξ → gi ξ 141 (20 * s + rs.length) = nI so → gi ξ 142 (20 * s + rs.length) = V (t + 1) → hO (fX9_tellRule_189 (nI (20 * s + rs.length)) ξ) (TP K P V s t F σ0) := by
            intro wr' ξ hw' x1 x2 x3 x4
            rw [← hw'] at hfin1 hwf1
            by_cases s2 : so = 2
            · rw [if_pos s2] at hfin1 hwf1
              exact t189b hs hK hV hr x1 (by rw [x3, s2]) x4 x2 (by omega) hwf1 hfin1.symm
            · rw [if_neg s2] at hfin1 hwf1
              exact t189v hs hK hV hr (by omega) x1 x3 (by rw [x4, if_neg s0]) x2 (by omega) hwf1 hfin1.symm
          have lo0 : 0 ≤ V (t + 1) := by rw [hv]; exact nI_pos' (by omega)
          by_cases hl : V (t + 1) ≤ 4
          · rw [if_pos hl]
            exact goal wr ψ (by rw [if_pos ⟨lo0, hl⟩]) hR3 fr3 m1 m2
          · rw [if_neg hl]
            unfold fX9_wrong
            rw [gd_t (inb_nI (by omega) (by decide)), hR3.2.1.2.2.1, if_neg (by decide), nI_clamp (by omega), m6]
            have wsel : (if 0 ≤ V (t + 1) ∧ V (t + 1) ≤ 4 then wr else if wr = -1 then nI (P (t + 1)) else wr) = if wr = -1 then nI (P (t + 1)) else wr := if_neg (fun z => hl z.2)
            rcases hR3.2.2.1 with ⟨b1, b2⟩ | ⟨q, b1, b2, b3, b4⟩
            · rw [b2, if_pos rfl]
              unfold fX9_wrong_46
              simp only [Option.bind_some]
              exact goal (nI (P (t + 1))) _ (by rw [wsel, if_pos b1]) (hR3.wr (by omega)) ((fr3.i (okc_2 (by decide))).i (okc_2 (by decide))) (by rw [gi_ne (by decide), gi_ne (by decide)]; exact m1) (by rw [gi_ne (by decide), gi_ne (by decide)]; exact m2)
            · have hwm : ¬ wr = -1 := by rw [b2]; exact nI_m1 (by have := hP2 q; omega)
              rw [b3, b4, if_neg (by decide)]
              by_cases hqt : q = t + 1
              · subst hqt
                rw [b2, if_neg (nI_nlt (Nat.le_refl _) (by have := hP2 (t + 1); omega)), if_pos rfl, if_neg (by decide)]
                simp only [Option.bind_some]
                exact goal wr ψ (by rw [wsel, if_neg hwm]) hR3 fr3 m1 m2
              · have hlt : P q < P (t + 1) := hP q (t + 1) (by omega) hR2.1.2
                rw [b2, if_pos (nI_lt hlt (by have := hP2 (t + 1); omega))]
                simp only [Option.bind_some]
                exact goal wr ψ (by rw [wsel, if_neg hwm]) hR3 fr3 m1 m2
      · rw [hR2.must_n hK (k := 2) (by rfl) (by decide) (by decide) k2]
        obtain ⟨n1, n2⟩ := hR2.fail (f := 1) (by decide) (by decide) F (by
          rw [hfin]
          refine fin_no (by omega) ?_
          rw [hm1]
          exact fun z => k2 (of_decide_eq_true z))
        rw [show fX9_fail 1 ω = fX9_fail (nI 1) ω from rfl, n1]
        simp only [Option.bind_some]
        rw [n2.1.2.1, if_neg (r_nle (k := 0) (by rfl) (by have := n2.1.1.1; omega) (by have := n2.1.1.2; omega))]
        exact ⟨_, rfl, (fr2.i (okc_2 (by decide))).i (okc_2 (by decide)), Or.inr ⟨n2.1, _, _, n2.2⟩⟩
theorem t64_no {F : FQ} {σ : PS} (h : FL F σ) : fX9_tellRule_64 σ = some σ := by
  unfold fX9_tellRule_64
  rw [h.2.1, if_neg (r_nle (k := 0) (by rfl) (by have := h.1.1; omega) (by have := h.1.2; omega))]
theorem tell_ok {K P : Nat → Nat} {V : Nat → Int32} {s t c g : Nat} {rs : List RU} {wr : Int32} {σ : PS} (hs : s ≤ 1) (hK : ∀ i, K i ≤ 26) (hV : ∀ i, K i = 2 → isN (V i) 0 9999) (hP : ∀ i j, i < j → (∀ q, q < j → K q ≠ 0) → P i < P j) (hP2 : ∀ i, P i ≤ 2000) (h : RC K P V s t c g rs wr σ) (hkt : K t ≠ 0) (q3 : wfQ (Z0 rs wr)) : hO (fX9_tellRule σ) (TP K P V s t (finR K P V t (Z0 rs wr)) σ) := by
  obtain ⟨⟨a1, a2⟩, ⟨i1, i2, i3, i4, i5⟩, a3, ⟨a4, a5⟩, ⟨a6, a7, a8⟩, a9⟩ := id h
  have hk := hK t
  have tk := h.tok.1
  have e20 := is_eq (x := 20) (j := 3) (by rfl) (by decide) (by decide) hk i3 a1 i1 tk
  have e22 := is_eq (x := 22) (j := 4) (by rfl) (by decide) (by decide) hk i3 a1 i1 tk
  have e23 := is_eq (x := 23) (j := 5) (by rfl) (by decide) (by decide) hk i3 a1 i1 tk
  unfold fX9_tellRule fX9_tellRule_27
  rw [e20]
  simp only [Option.bind_some]
  rw [e22]
  simp only [Option.bind_some]
  rw [e23]
  simp only [Option.bind_some]
  rw [ite_tb, ite_tb, ite_tb]
  by_cases h35 : 3 ≤ K t ∧ K t ≤ 5
  · have e : (if decide (K t = 3) = true then fX9_tellRule_32 1 σ else if decide (K t = 4) = true then fX9_tellRule_32 1 σ else if decide (K t = 5) = true then fX9_tellRule_32 1 σ else fX9_tellRule_32 0 σ) = fX9_tellRule_32 1 σ := by
      by_cases z3 : K t = 3
      · rw [if_pos (decide_eq_true z3)]
      rw [if_neg (fun y => z3 (of_decide_eq_true y))]
      by_cases z4 : K t = 4
      · rw [if_pos (decide_eq_true z4)]
      rw [if_neg (fun y => z4 (of_decide_eq_true y)), if_pos (decide_eq_true (by omega))]
    rw [e]
    have hm : mayS (Z0 rs wr) (K t) = true := decide_eq_true (by omega)
    unfold fX9_tellRule_32
    rw [if_neg (by decide), i4, gd_t (inb_nI (by omega) (by decide)), nI_clamp (by omega), a7]
    by_cases h20 : rs.length = 20
    · rw [if_pos (by rw [h20]; rfl)]
      obtain ⟨n1, n2⟩ := h.fail (f := 2) (by decide) (by decide) (finR K P V t (Z0 rs wr)) (fin_too a1 hm hkt (Or.inr (decide_eq_true (show 20 ≤ rs.length by omega))))
      rw [show fX9_fail 2 σ = fX9_fail (nI 2) σ from rfl, n1]
      simp only [Option.bind_some]
      rw [t64_no n2.1]
      exact ⟨_, rfl, (frR.rf.i (okc_2 (by decide))).i (okc_2 (by decide)), Or.inr ⟨n2.1, _, _, n2.2⟩⟩
    · rw [if_neg (e_ne (k := 20) (by rfl) h20 (by omega) (by decide))]
      unfold fX9_tellRule_64
      rw [i3, if_pos (by decide), i4, gd_t (inb_nI (by omega) (by decide)), nI_clamp (by omega), a7, nI20, e20]
      simp only [Option.bind_some]
      rw [e22]
      simp only [Option.bind_some]
      rw [ite_tb, ite_tb]
      by_cases z3 : K t = 3
      · rw [if_pos (decide_eq_true z3)]
        exact t122 (so := 0) hs hK hV hP hP2 (by omega) (by decide) h frR.rf (by omega) q3 rfl
      rw [if_neg (fun y => z3 (of_decide_eq_true y))]
      by_cases z4 : K t = 4
      · rw [if_pos (decide_eq_true z4)]
        exact t122 (so := 1) hs hK hV hP hP2 (by omega) (by decide) h frR.rf (by omega) q3 rfl
      rw [if_neg (fun y => z4 (of_decide_eq_true y))]
      exact t122 (so := 2) hs hK hV hP hP2 (by omega) (by decide) h frR.rf (by omega) q3 rfl
  · rw [if_neg (fun y => h35 (by have := of_decide_eq_true y; omega)), if_neg (fun y => h35 (by have := of_decide_eq_true y; omega)), if_neg (fun y => h35 (by have := of_decide_eq_true y; omega))]
    unfold fX9_tellRule_32
    rw [if_pos rfl]
    obtain ⟨n1, n2⟩ := h.fail (f := 1) (by decide) (by decide) (finR K P V t (Z0 rs wr)) (by
      refine fin_no a1 ?_
      intro z
      have := of_decide_eq_true (p := K t = 0 ∨ (3 ≤ K t ∧ K t ≤ 5)) z
      omega)
    rw [show fX9_fail 1 σ = fX9_fail (nI 1) σ from rfl, n1]
    simp only [Option.bind_some]
    rw [t64_no n2.1]
    exact ⟨_, rfl, (frR.rf.i (okc_2 (by decide))).i (okc_2 (by decide)), Or.inr ⟨n2.1, _, _, n2.2⟩⟩
