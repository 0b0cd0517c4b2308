/-! the reference's relation -/
def okL (s c g : Nat) (k j : Nat) : Prop := okE s c k j ∨ (k = 147 ∧ j = s) ∨ (148 ≤ k ∧ k ≤ 152 ∧ j = 200 * s + g)
theorem flt_54 {F : FQ} {s c : Nat} {σ : PS} (x1 x2 x3 : Int32) (h : FL F σ) : hO (fX9_relation_54 x1 x2 x3 σ) (fun τ => FL F τ ∧ frR (okE s c) σ τ) := by
  obtain ⟨⟨h1, h2⟩, h3, h4, t, h5, h6⟩ := h
  obtain ⟨u, hu, e⟩ := next_no h3 h1 h2 h5 h6
  unfold fX9_relation_54
  rw [e]
  simp only [Option.bind_some]
  have g13 : gi (sI σ 132 11 (nI u)) 132 13 = nI F.1 := by rw [gi_nj (by decide)]; exact h3
  rw [exp_no g13 h1 h2]
  simp only [Option.bind_some]
  rw [gi_nj (by decide), g13, if_neg (r_nle (k := 0) (by rfl) (by omega) (by omega))]
  refine ⟨_, rfl, ⟨⟨h1, h2⟩, ?_, ?_, u, hu, ?_⟩, (frR.rf.i (by unfold okE; omega)).i (by unfold okE; omega)⟩
  · rw [gi_nj (by decide)]; exact g13
  · rw [gi_nj (by decide), gi_nj (by decide)]; exact h4
  · rw [gi_nj (by decide), gi_eq]
theorem rk_rel : ∀ k, k < 27 → k ≠ 1 → ¬ (21 ≤ k ∧ k ≤ 24) → (nI (rkF k) - 11 < 0 ∨ ¬ nI (rkF k) - 11 ≤ 3) := by decide +kernel
theorem rk_rel2 : ∀ k, k < 27 → (21 ≤ k ∧ k ≤ 24) → nI (rkF k) - 11 = nI (k - 21) ∧ ¬ nI (k - 21) < 0 ∧ nI (k - 21) ≤ 3 := by decide +kernel
theorem tak4r (R : List RU × Int32) (S : Nat × Int32 × List IT) (re : List RE) (cn : Bool) (o : Nat) (l it : List IT) (wt : List Nat) (k p : Nat) (v : Int32) (h : 21 ≤ k ∧ k ≤ 24) : takS (mkQ 4 (1, R, S, (re, cn, o, l)) it wt) k v p = mkQ 3 (2, R, S, (re, cn, k - 21, it ++ rlE 1 wt)) [] [] := by
  have : k = 21 ∨ k = 22 ∨ k = 23 ∨ k = 24 := by omega
  rcases this with rfl | rfl | rfl | rfl <;> rfl
theorem nar_tb (b : Bool) : vp_nar .boolean (tb b) = tb b := by cases b <;> rfl
theorem rel_w {s g e : Nat} {υ : PS} (hs : s ≤ 1) (hg : g < 200) (x1 x2 x3 y : Int32) (i19 : gi υ 132 19 = nI s) (i47 : gi υ 147 s = nI g) (i33 : gi υ 132 33 = nI e) {σ9 : PS} (hy : gi σ9 132 33 = y) (h13 : gi υ 132 13 = 0) (he : fX9_expression σ9 = some υ) (σ : PS) (hn : fX9_next σ = some σ9) : fX9_relation_54 x1 x2 x3 σ = some (sI (sI (sI (sI (sI (sI υ 148 (200 * s + g) x3) 149 (200 * s + g) x2) 150 (200 * s + g) y) 151 (200 * s + g) (nI e)) 152 (200 * s + g) (vp_nar .boolean x1)) 147 s (nI (g + 1))) := by
  unfold fX9_relation_54
  rw [hn]
  simp only [Option.bind_some]
  rw [he]
  simp only [Option.bind_some]
  rw [h13, if_pos (by decide)]
  simp (disch := decide) only [gi_ne]
  rw [i19, nI_clamp (by omega), i47, nI200, nI_clamp (by omega), i33, hy, nI_1, gd_t (inb_nI (by omega) (by decide)), gd_t (inb_nI (by omega) (by decide)), gd_t (inb_nI (by omega) (by decide)), gd_t (inb_nI (by omega) (by decide)), gd_t (inb_nI (by omega) (by decide)), gd_t (inb_nI (by omega) (by decide)), gd_t (inb_nI (by omega) (by decide)), gd_t (inb_nI (by omega) (by decide))]
def RLP (K P : Nat → Nat) (V : Nat → Int32) (s t c g : Nat) (rs : List RU) (wr : Int32) (R : List RU × Int32) (S : Nat × Int32 × List IT) (re : List RE) (cn : Bool) (F : FQ) (σ τ : PS) : Prop := (∃ t' c' op le it wt, t + 3 ≤ t' ∧ c ≤ c' ∧ RC K P V s t' c' (g + 1) rs wr τ ∧ reQ τ s c' g (cn, op, le, it ++ rlE 1 wt) ∧ frR (okL s c g) σ τ ∧ opnW wt = 0 ∧ ¬ (18 ≤ K t' ∧ K t' ≤ 20) ∧ wfQ (mkQ 4 (2, R, S, (re, cn, op, le)) it wt) ∧ finR K P V t' (mkQ 4 (2, R, S, (re, cn, op, le)) it wt) = F) ∨ (RX s rs.length g F τ ∧ frR (okE s c) σ τ)
theorem rela_ok {K P : Nat → Nat} {V : Nat → Int32} {s t c g : Nat} {rs : List RU} {wr : Int32} {R : List RU × Int32} {S : Nat × Int32 × List IT} {re : List RE} {cn : Bool} {o : Nat} {l : List IT} {σ : PS} (hs : s ≤ 1) (hK : ∀ i, K i ≤ 26) (hV : ∀ i, K i = 2 → isN (V i) 0 9999) (h : RC K P V s t c g rs wr σ) (hw : wfQ (mkQ 3 (1, R, S, (re, cn, o, l)) [] [])) : hO (fX9_relation (tb cn) σ) (RLP K P V s t c g rs wr R S re cn (finR K P V t (mkQ 3 (1, R, S, (re, cn, o, l)) [] [])) σ) := by
  generalize hF : finR K P V t (mkQ 3 (1, R, S, (re, cn, o, l)) [] []) = F
  obtain ⟨⟨h1, h2⟩, ⟨i1, i2, i3, i4, i5⟩, h3, ⟨h4, h5⟩, ⟨h6, h7, h8⟩, h9, h10, h11⟩ := id h
  unfold fX9_relation
  have ex := exp_ok hs hK hV h11 h1 h2 hw i1 i2 i3 i5 h4
  rw [hF] at ex
  refine hO.then ex (fun τ ⟨fr, hp⟩ => ?_)
  rcases hp with ⟨t1, it, wt, q0, ⟨q1, q2⟩, q3, q4, q5, q6, ⟨q7, q8, q9⟩, q10, q11, q12⟩ | hfl
  · have hR1 : RC K P V s t1 (c + (it ++ rlE 1 wt).length) g rs wr τ := h.ex fr (by omega) q1 q2 (by omega) q12 q7 q8 q9 (by rw [q10, Nat.add_assoc])
    obtain ⟨k1, k2, k3⟩ := hR1.tok
    have hk := hK t1
    rw [q9, if_pos (by decide), q7, gd_t (inb_nI (by omega) (by decide)), nI_clamp (by omega), i5]
    unfold fX9_relation_32
    rw [q9, if_pos rfl]
    by_cases hr : 21 ≤ K t1 ∧ K t1 ≤ 24
    · have e135 : gi τ 135 t1 = nI (rkF (K t1)) := by
        rcases k1 with ⟨y, _⟩ | ⟨_, y⟩
        · omega
        · exact y
      obtain ⟨d1, d2, d3⟩ := rk_rel2 (K t1) (by omega) hr
      rw [e135, d1, if_neg d2, if_pos d3]
      have h0 : K t1 ≠ 0 := by omega
      have hm : mayS (mkQ 4 (1, R, S, (re, cn, o, l)) it wt) (K t1) = true := by
        rw [may4, if_neg q5, if_pos q4, if_pos rfl]; exact decide_eq_true hr
      have hto : ¬ tooS (mkQ 4 (1, R, S, (re, cn, o, l)) it wt) (K t1) = true := by
        rw [too4]
        exact fun z => by have := of_decide_eq_true z; omega
      by_cases t4 : t1 = 400
      · have hfin : finR K P V t1 (mkQ 4 (1, R, S, (re, cn, o, l)) it wt) = (2, P t1, [], -1) := fin_too q1 hm h0 (Or.inl t4)
        obtain ⟨n1, n2⟩ := hR1.nextE t4 F (by rw [← q6, hfin])
        obtain ⟨⟨⟨y1, y2⟩, y3, y4, u, y5, y6⟩, y7⟩ := n2
        unfold fX9_relation_54
        rw [n1]
        simp only [Option.bind_some]
        rw [exp_no y3 y1 y2]
        simp only [Option.bind_some]
        rw [gi_nj (by decide), y3, if_neg (r_nle (k := 0) (by rfl) (by omega) (by omega))]
        have fr2 : frR (okE s c) τ (sI (sI (sI τ 132 13 2) 132 14 (nI (P t1))) 132 37 0) := ((frR.rf.i (by unfold okE; omega)).i (by unfold okE; omega)).i (by unfold okE; omega)
        refine ⟨_, rfl, Or.inr ⟨RX.ex (c := c) h.crn (fr.tr fr2) ⟨⟨y1, y2⟩, ?_, ?_, u, y5, ?_⟩, fr.tr fr2⟩⟩
        · rw [gi_nj (by decide)]; exact y3
        · rw [gi_nj (by decide)]; exact y4
        · rw [gi_nj (by decide)]; exact y6
      · have hfin := fin_go (P := P) (V := V) (show t1 < 400 by omega) hm h0 hto
        have hwf := wfQ_take (p := P t1) q3 hm h0 hto (hV t1)
        rw [tak4r _ _ _ _ _ _ _ _ _ _ _ hr] at hfin hwf
        rw [q6] at hfin
        have hn := next_go (show t1 < 400 by omega) q7
        have hR2 := hR1.next (by omega) h0
        obtain ⟨⟨z1, z2⟩, ⟨w1, w2, w3, w4, w5⟩, z3, ⟨z4, z5⟩, ⟨z6, z7, z8⟩, z9, z10, z11⟩ := id hR2
        have ex2 := exp_ok hs hK hV z11 z1 z2 hwf w1 w2 w3 w5 z4
        rw [← hfin] at ex2
        obtain ⟨υ, e2, fr2, hp⟩ := ex2
        have fr3 : frR (okE s c) σ υ := (fr.tr (frR.rf.i (by unfold okE; omega))).tr (fr2.mono (fun k j z => by unfold okE at z ⊢; omega))
        rcases hp with ⟨t2, it2, wt2, p0, ⟨p1, p2⟩, p3, p4, p5, p6, ⟨p7, p8, p9⟩, p10, p11, p12⟩ | hfl
        · have hR3 : RC K P V s t2 (c + (it ++ rlE 1 wt).length + (it2 ++ rlE 1 wt2).length) g rs wr υ := hR2.ex fr2 (by omega) p1 p2 (by omega) p12 p7 p8 p9 (by rw [p10, Nat.add_assoc, Nat.add_assoc])
          obtain ⟨⟨x1, x2⟩, ⟨v1, v2, v3, v4, v5⟩, x3, ⟨x4, x5⟩, ⟨x6, x7, x8⟩, x9, x10, x11⟩ := id hR3
          rw [rel_w hs (by omega) (tb cn) _ _ _ v4 x8 v5 w5 v3 e2 _ hn, nar_tb]
          generalize hω : (sI (sI (sI (sI (sI (sI υ 148 (200 * s + g) (nI (K t1 - 21))) 149 (200 * s + g) (nI (500 * s + c))) 150 (200 * s + g) (nI (500 * s + (c + (it ++ rlE 1 wt).length)))) 151 (200 * s + g) (nI (500 * s + (c + (it ++ rlE 1 wt).length + (it2 ++ rlE 1 wt2).length)))) 152 (200 * s + g) (tb cn)) 147 s (nI (g + 1))) = ω
          have gn : ∀ k j, k ≠ 147 → (148 ≤ k ∧ k ≤ 152 → j ≠ 200 * s + g) → gi ω k j = gi υ k j := by
            intro k j a1 a2
            rw [← hω, gi_ne a1]
            by_cases b1 : k = 152
            · subst b1; rw [gi_nj (a2 (by omega)), gi_ne (by decide), gi_ne (by decide), gi_ne (by decide), gi_ne (by decide)]
            rw [gi_ne b1]
            by_cases b2 : k = 151
            · subst b2; rw [gi_nj (a2 (by omega)), gi_ne (by decide), gi_ne (by decide), gi_ne (by decide)]
            rw [gi_ne b2]
            by_cases b3 : k = 150
            · subst b3; rw [gi_nj (a2 (by omega)), gi_ne (by decide), gi_ne (by decide)]
            rw [gi_ne b3]
            by_cases b4 : k = 149
            · subst b4; rw [gi_nj (a2 (by omega)), gi_ne (by decide)]
            rw [gi_ne b4]
            by_cases b5 : k = 148
            · subst b5; rw [gi_nj (a2 (by omega))]
            rw [gi_ne b5]
          have g8 : gi ω 148 (200 * s + g) = nI (K t1 - 21) := by rw [← hω]; simp (disch := decide) only [gi_ne, gi_eq]
          have g9 : gi ω 149 (200 * s + g) = nI (500 * s + c) := by rw [← hω]; simp (disch := decide) only [gi_ne, gi_eq]
          have g0 : gi ω 150 (200 * s + g) = nI (500 * s + (c + (it ++ rlE 1 wt).length)) := by rw [← hω]; simp (disch := decide) only [gi_ne, gi_eq]
          have g1 : gi ω 151 (200 * s + g) = nI (500 * s + (c + (it ++ rlE 1 wt).length + (it2 ++ rlE 1 wt2).length)) := by rw [← hω]; simp (disch := decide) only [gi_ne, gi_eq]
          have g2 : gi ω 152 (200 * s + g) = tb cn := by rw [← hω]; simp (disch := decide) only [gi_ne, gi_eq]
          have g7 : gi ω 147 s = nI (g + 1) := by rw [← hω, gi_eq]
          have srR : sameR s rs.length g (c + (it ++ rlE 1 wt).length + (it2 ++ rlE 1 wt2).length) υ ω := ⟨fun k i a1 a2 _ => gn _ _ (by omega) (by omega), fun k f a1 a2 a3 => gn _ _ (by omega) (by omega), fun j _ _ => ⟨gn _ _ (by decide) (by omega), gn _ _ (by decide) (by omega)⟩⟩
          have fL : frR (okL s c g) σ ω := by
            refine (fr3.mono (fun k j z => Or.inl z)).tr ?_
            rw [← hω]
            refine (((((frR.rf.i ?_).i ?_).i ?_).i ?_).i ?_).i ?_
            · exact Or.inr (Or.inr ⟨by decide, by decide, rfl⟩)
            · exact Or.inr (Or.inr ⟨by decide, by decide, rfl⟩)
            · exact Or.inr (Or.inr ⟨by decide, by decide, rfl⟩)
            · exact Or.inr (Or.inr ⟨by decide, by decide, rfl⟩)
            · exact Or.inr (Or.inr ⟨by decide, by decide, rfl⟩)
            · exact Or.inr (Or.inl ⟨rfl, rfl⟩)
          refine ⟨ω, rfl, Or.inl ⟨t2, c + (it ++ rlE 1 wt).length + (it2 ++ rlE 1 wt2).length, K t1 - 21, it ++ rlE 1 wt, it2, wt2, by omega, by omega, ⟨⟨x1, x2⟩, ⟨?_, ?_, ?_, ?_, ?_⟩, RW_fr x3 (Nat.le_refl _) (gn _ _ (by decide) (by omega)) (gn _ _ (by decide) (by omega)), ⟨x4, by omega⟩, ⟨x6, ?_, g7⟩, bmP_fr x9 srR (Nat.le_refl _) (by omega), ?_, TKN_fr x11 (fun k j a1 a2 => gn _ _ (by omega) (by omega))⟩, ?_, fL, p4, p5, p3, p6⟩⟩
          · rw [gn _ _ (by decide) (by omega)]; exact v1
          · rw [gn _ _ (by decide) (by omega)]; exact v2
          · rw [gn _ _ (by decide) (by omega)]; exact v3
          · rw [gn _ _ (by decide) (by omega)]; exact v4
          · rw [gn _ _ (by decide) (by omega)]; exact v5
          · rw [gn _ _ (by decide) (by omega)]; exact x7
          · intro f hf
            by_cases z : f = g
            · subst z
              rw [g9, g0, g1]
              exact ⟨⟨_, rfl, by omega, by omega⟩, ⟨_, rfl, by omega, by omega⟩, ⟨_, rfl, by omega, by omega⟩⟩
            · exact RG_fr x10 srR (Nat.le_refl _) f (by omega)
          · refine ⟨g8, g2, 500 * s + c, g9, by rw [g0, Nat.add_assoc], by rw [g1]; simp only [Nat.add_assoc], by omega, by simp only; omega, ?_, ?_⟩
            · refine sgM_congr (fun j j1 j2 => ?_) q11
              rw [gn _ _ (by decide) (by omega), gn _ _ (by decide) (by omega), fr2.1 153 j (by simp only at j2; unfold okE; omega), fr2.1 154 j (by simp only at j2; unfold okE; omega), gi_ne (by decide), gi_ne (by decide)]
              exact ⟨rfl, rfl⟩
            · rw [← Nat.add_assoc] at p11
              refine sgM_congr (fun j j1 j2 => ?_) p11
              exact ⟨gn _ _ (by decide) (by omega), gn _ _ (by decide) (by omega)⟩
        · obtain ⟨⟨y1, y2⟩, y3, y4, u, y5, y6⟩ := id hfl
          unfold fX9_relation_54
          rw [hn]
          simp only [Option.bind_some]
          rw [e2]
          simp only [Option.bind_some]
          rw [y3, if_neg (r_nle (k := 0) (by rfl) (by omega) (by omega))]
          exact ⟨υ, rfl, Or.inr ⟨RX.ex (c := c) h.crn fr3 hfl, fr3⟩⟩
    · have hif : (if gi τ 135 t1 - 11 < 0 then fX9_relation_49 (tb cn) (nI (500 * s + c)) (gi τ 135 t1 - 11) τ else (if gi τ 135 t1 - 11 ≤ 3 then fX9_relation_54 (tb cn) (nI (500 * s + c)) (gi τ 135 t1 - 11) τ else fX9_relation_49 (tb cn) (nI (500 * s + c)) (gi τ 135 t1 - 11) τ)) = fX9_relation_49 (tb cn) (nI (500 * s + c)) (gi τ 135 t1 - 11) τ := by
        rcases k1 with ⟨_, y⟩ | ⟨y, z⟩
        · have : gi τ 135 t1 - 11 < 0 := by rcases y with y | y <;> rw [y] <;> decide
          rw [if_pos this]
        · rcases rk_rel (K t1) (by omega) y hr with z2 | z2
          · rw [z, if_pos z2]
          · rw [z, if_neg z2, ite_self]
      rw [hif]
      unfold fX9_relation_49
      have hm : ¬ mayS (mkQ 4 (1, R, S, (re, cn, o, l)) it wt) (K t1) = true := by
        rw [may4, if_neg q5, if_pos q4, if_pos rfl]
        exact fun z => hr (of_decide_eq_true z)
      have hfin : finR K P V t1 (mkQ 4 (1, R, S, (re, cn, o, l)) it wt) = (1, P t1, [], -1) := fin_no q1 hm
      obtain ⟨n1, n2⟩ := hR1.fail (f := 1) (by decide) (by decide) F (by rw [← q6, hfin])
      rw [show (1 : Int32) = nI 1 from rfl, n1]
      simp only [Option.bind_some]
      refine (flt_54 (s := s) (c := c) _ _ _ n2.1).mono (fun υ z => ?_)
      have fr2 : frR (okE s c) σ υ := (fr.tr ((frR.rf.i (by unfold okE; omega)).i (by unfold okE; omega))).tr z.2
      exact Or.inr ⟨RX.ex (c := c) h.crn fr2 z.1, fr2⟩
  · obtain ⟨⟨y1, y2⟩, y3, y4, u, y5, y6⟩ := id hfl
    rw [y3, if_neg (r_nle (k := 0) (by rfl) (by omega) (by omega))]
    unfold fX9_relation_32
    rw [y3, if_neg (e_ne (k := 0) (by rfl) y1 (by omega) (by decide))]
    refine (flt_54 (s := s) (c := c) _ _ _ hfl).mono (fun υ z => ?_)
    exact Or.inr ⟨RX.ex (c := c) h.crn (fr.tr z.2) z.1, fr.tr z.2⟩
