/-! the reference's expression, from its beginning -/
theorem rk_var : ∀ k, k < 27 → k ≠ 1 → ((9 ≤ k ∧ k ≤ 16) → rkF k = k + 17) ∧ (¬ (9 ≤ k ∧ k ≤ 16) → rkF k < 26) := by decide +kernel
theorem ev_var {r12 : Int32 → Int32 → PS → Option (PS)} {k t : Nat} {σ : PS} (hk : k ≤ 26) (ht : t ≤ 400) (h1 : gi σ 132 11 = nI t) (hr : RK k (gi σ 135 t)) : gd (inb (gi σ 132 11) 403) ((if (gi σ 135 ((gi σ 132 11) : Int32).toNatClampNeg) < 26 then fX9_expression_131 r12 0 σ else gd (inb (gi σ 132 11) 403) ((if 33 < (gi σ 135 ((gi σ 132 11) : Int32).toNatClampNeg) then fX9_expression_131 r12 0 σ else fX9_expression_132 r12 0 1 σ)))) = fX9_expression_132 r12 0 (if 9 ≤ k ∧ k ≤ 16 then 1 else 0) σ := by
  rw [h1, gd_t (inb_nI (by omega) (by decide)), gd_t (inb_nI (by omega) (by decide)), nI_clamp (by omega)]
  unfold fX9_expression_131
  by_cases hv : 9 ≤ k ∧ k ≤ 16
  · rw [if_pos hv]
    have e : gi σ 135 t = nI (k + 17) := by
      rcases hr with ⟨y, _⟩ | ⟨y, z⟩
      · omega
      · rw [z, (rk_var k (by omega) y).1 hv]
    rw [e, if_neg (r_nlt (k := 26) (by rfl) (by omega) (by omega)), if_neg (l_nlt (k := 33) (by rfl) (by omega) (by decide))]
  · rw [if_neg hv]
    have e : gi σ 135 t < 26 := by
      rcases hr with ⟨y, z⟩ | ⟨y, z⟩
      · rcases z with z | z <;> rw [z] <;> decide
      · rw [z]; exact r_lt (k := 26) (by rfl) ((rk_var k (by omega) y).2 hv) (by decide)
    rw [if_pos e]
theorem exp_12 {K P : Nat → Nat} {V : Nat → Int32} {s c t0 : Nat} {B : BS} {F : FQ} {σ0 : PS} (hs : s ≤ 1) (hK : ∀ i, K i ≤ 26) (hV : ∀ i, K i = 2 → isN (V i) 0 9999) (hT : TKN K P V σ0) : ∀ (q m t : Nat) (it : List IT) (wt : List Nat) (σ : PS), 401 ≤ t + q → t0 ≤ t → EX K s c 3 B t it wt σ0 σ → finR K P V t (mkQ 3 B it wt) = F → hO (fX9_expression_12 (m + q + 1) 0 1 σ) (EP K P V s c B t0 F σ0) := by
  intro q
  induction q with
  | zero =>
    intro m t it wt σ hq _ hE
    have := hE.1.1
    omega
  | succ q ih =>
    intro m t it wt σ hq ht0 hE hF
    obtain ⟨⟨ht, hz⟩, hw, e11, e12, e13, ⟨e37, e155⟩, e33, eC, eB, fr⟩ := hE
    obtain ⟨w1, w2, w3⟩ := wf_wt hw
    obtain ⟨k1, k2, k3⟩ := tkn_at hT fr ht hz
    have hk := hK t
    have hf : ∀ f τ, gi τ 132 13 = nI f → f ≠ 0 → f ≤ 2 → fX9_expression_12 (m + q + 1) 0 1 τ = some τ := by
      intro f τ h1 h2 h3
      rw [fX9_expression_12, if_neg (by decide), h1, if_neg (e_ne (k := 0) (by rfl) h2 (by omega) (by decide))]
    rw [show m + (q + 1) + 1 = (m + q + 1) + 1 by omega, fX9_expression_12, if_neg (by decide), if_pos e13, is_eq (j := 25) (by rfl) (by decide) (by decide) hk e13 ht e11 k1]
    simp only [Option.bind_some]
    rw [ite_tb, if_pos e13, e12]
    by_cases h25 : K t = 25
    · rw [if_pos (decide_eq_true h25)]
      have hm : mayS (mkQ 3 B it wt) (K t) = true := by rw [may3]; exact decide_eq_true (by omega)
      have h0 : K t ≠ 0 := by omega
      by_cases h6 : opnW wt = 6
      · rw [if_pos (by rw [h6]; rfl), fail_eq e13 ht e11 k2]
        simp only [Option.bind_some]
        unfold fX9_expression_46
        rw [gi_nj (by decide), gi_eq, if_neg (by decide)]
        have hfin : finR K P V t (mkQ 3 B it wt) = (2, P t, [], -1) := fin_too ht hm h0 (Or.inr (by rw [too3]; exact decide_eq_true ⟨h25, by omega⟩))
        rw [hfin] at hF
        refine ⟨_, rfl, (fr.i (by unfold okE; omega)).i (by unfold okE; omega), Or.inr ?_⟩
        rw [← hF]
        refine ⟨⟨(show (2 : Nat) ≠ 0 by decide), (show (2 : Nat) ≤ 2 by decide)⟩, ?_, gi_eq, t, ht, ?_⟩
        · rw [gi_nj (by decide), gi_eq]; rfl
        · rw [gi_nj (by decide), gi_nj (by decide)]; exact e11
      · rw [if_neg (e_ne (k := 6) (by rfl) h6 (by omega) (by decide))]
        unfold fX9_expression_46
        rw [e13, if_pos (by decide), e12, nI_1]
        have g11 : gi (sI σ 132 12 (nI (opnW wt + 1))) 132 11 = nI t := by rw [gi_nj (by decide)]; exact e11
        have g13 : gi (sI σ 132 12 (nI (opnW wt + 1))) 132 13 = 0 := by rw [gi_nj (by decide)]; exact e13
        have fE : frR (okE s c) σ0 (sI σ 132 12 (nI (opnW wt + 1))) := fr.i (by unfold okE; omega)
        by_cases t4 : t = 400
        · subst t4
          rw [next_end g13 g11 (by rw [gi_ne (by decide)]; exact k2)]
          simp only [Option.bind_some]
          rw [gi_nj (by decide), gi_nj (by decide), gi_nj (by decide), e37, gd_t (inb_nI (by omega) (by decide)), nI_clamp (by omega)]
          rw [hf 2 _ (by rw [gi_nj (by decide), gi_ne (by decide), gi_nj (by decide), gi_eq]; rfl) (by decide) (by decide)]
          have hfin : finR K P V 400 (mkQ 3 B it wt) = (2, P 400, [], -1) := fin_too ht hm h0 (Or.inl rfl)
          rw [hfin] at hF
          refine ⟨_, rfl, (((fE.i (by unfold okE; omega)).i (by unfold okE; omega)).i (by unfold okE; omega)).i (by unfold okE; omega), Or.inr ?_⟩
          rw [← hF]
          refine ⟨⟨(show (2 : Nat) ≠ 0 by decide), (show (2 : Nat) ≤ 2 by decide)⟩, ?_, ?_, 400, by decide, ?_⟩
          · rw [gi_nj (by decide), gi_ne (by decide), gi_nj (by decide), gi_eq]; rfl
          · rw [gi_nj (by decide), gi_ne (by decide), gi_eq]
          · rw [gi_nj (by decide), gi_ne (by decide), gi_nj (by decide), gi_nj (by decide)]; exact g11
        · rw [next_go (by omega) g11]
          simp only [Option.bind_some]
          rw [gi_nj (by decide), gi_nj (by decide), e37, gd_t (inb_nI (by omega) (by decide)), nI_clamp (by omega), gi_ne (by decide), gi_nj (by decide), gi_nj (by decide), e37, nI_1]
          have hto : ¬ tooS (mkQ 3 B it wt) (K t) = true := by
            rw [too3]
            exact fun z => by have := of_decide_eq_true z; omega
          have hfin := fin_go (P := P) (V := V) (show t < 400 by omega) hm h0 hto
          have hwf := wfQ_take (p := P t) hw hm h0 hto (hV t)
          rw [tak3, if_pos h25] at hfin hwf
          refine ih m (t + 1) it (25 :: wt) _ (by omega) (by omega) ⟨⟨by omega, fun j hj => ?_⟩, hwf, ?_, ?_, ?_, ⟨?_, ?_⟩, ?_, ?_, ?_, ((fE.i (by unfold okE; omega)).i (by unfold okE; omega)).i (by unfold okE; omega)⟩ (by rw [← hfin]; exact hF)
          · by_cases z : j = t
            · rw [z]; exact h0
            · exact hz j (by omega)
          · rw [gi_nj (by decide), gi_ne (by decide), gi_eq]
          · rw [gi_nj (by decide), gi_ne (by decide), gi_nj (by decide), gi_eq]; rfl
          · rw [gi_nj (by decide), gi_ne (by decide), gi_nj (by decide)]; exact g13
          · rw [gi_eq, List.length_cons]
          · simp only [List.map_cons, stk, List.length_map]
            refine ⟨by rw [gi_ne (by decide), gi_eq]; rfl, stk_congr (fun j hj => ?_) e155⟩
            rw [List.length_map] at hj
            rw [gi_ne (by decide), gi_nj (by omega), gi_ne (by decide), gi_ne (by decide)]
          · rw [gi_nj (by decide), gi_ne (by decide), gi_nj (by decide), gi_nj (by decide)]; exact e33
          · refine sgM_congr (fun j j1 j2 => ?_) eC
            simp (disch := omega) only [gi_ne]
            exact ⟨trivial, trivial⟩
          · rw [List.length_cons]; omega
    · rw [if_neg (fun z => h25 (of_decide_eq_true z)), ev_var hk ht e11 k1]
      unfold fX9_expression_132
      rw [is_eq (j := 2) (by rfl) (by decide) (by decide) hk e13 ht e11 k1]
      simp only [Option.bind_some]
      rw [ite_tb]
      by_cases hu : K t = 2 ∨ (9 ≤ K t ∧ K t ≤ 16)
      · have hm : mayS (mkQ 3 B it wt) (K t) = true := by rw [may3]; exact decide_eq_true (by omega)
        have h0 : K t ≠ 0 := by omega
        have hto : ¬ tooS (mkQ 3 B it wt) (K t) = true := by
          rw [too3]
          exact fun z => h25 (of_decide_eq_true z).1
        have hit : ∃ i : IT, takS (mkQ 3 B it wt) (K t) (V t) (P t) = mkQ 4 B (it ++ [i]) wt ∧ fX9_expression_150 (fX9_expression_12 (m + q + 1)) 0 (if 9 ≤ K t ∧ K t ≤ 16 then 1 else 0) σ = fX9_expression_196 (fX9_expression_12 (m + q + 1)) 0 (sI (sI (sI σ 153 (500 * s + c + it.length) (nI i.1)) 154 (500 * s + c + it.length) i.2) 132 33 (nI (500 * s + c + it.length + 1))) := by
          rw [tak3, if_neg h25]
          have e150 : ∀ x3, fX9_expression_150 (fX9_expression_12 (m + q + 1)) 0 x3 σ = if x3 = 0 then (fX9_emit 0 (gi σ 137 t) σ).bind (fun σ21 => fX9_expression_196 (fX9_expression_12 (m + q + 1)) 0 σ21) else (fX9_emit 1 ((gi σ 135 t) - 26) σ).bind (fun σ25 => fX9_expression_196 (fX9_expression_12 (m + q + 1)) 0 σ25) := by
            intro x3
            unfold fX9_expression_150
            rw [e13, if_pos (show (0 : Int32) ≤ 0 by decide), e11, gd_t (inb_nI (by omega) (by decide)), gd_t (inb_nI (by omega) (by decide)), nI_clamp (by omega)]
          by_cases h2 : K t = 2
          · refine ⟨(0, V t), by rw [if_pos h2], ?_⟩
            rw [if_neg (show ¬ (9 ≤ K t ∧ K t ≤ 16) by omega), e150, if_pos rfl, k3 h2, emit_eq _ _ (by omega) e33]
            rfl
          · refine ⟨(1, nI (K t - 9)), by rw [if_neg h2], ?_⟩
            have e : gi σ 135 t = nI (K t + 17) := by
              rcases k1 with ⟨y, _⟩ | ⟨y, z⟩
              · omega
              · rw [z, (rk_var (K t) (by omega) y).1 (by omega)]
            rw [if_pos (show 9 ≤ K t ∧ K t ≤ 16 by omega), e150, if_neg (by decide), e, show (26 : Int32) = nI 26 from rfl, nI_sub (by omega), show K t + 17 - 26 = K t - 9 by omega, emit_eq _ _ (by omega) e33]
            rfl
        have e3 : (if decide (K t = 2) = true then fX9_expression_150 (fX9_expression_12 (m + q + 1)) 0 (if 9 ≤ K t ∧ K t ≤ 16 then 1 else 0) σ else if (if 9 ≤ K t ∧ K t ≤ 16 then (1 : Int32) else 0) = 0 then (fX9_fail 1 σ).bind (fun σ17 => fX9_expression_150 (fX9_expression_12 (m + q + 1)) 0 (if 9 ≤ K t ∧ K t ≤ 16 then 1 else 0) σ17) else fX9_expression_150 (fX9_expression_12 (m + q + 1)) 0 (if 9 ≤ K t ∧ K t ≤ 16 then 1 else 0) σ) = fX9_expression_150 (fX9_expression_12 (m + q + 1)) 0 (if 9 ≤ K t ∧ K t ≤ 16 then 1 else 0) σ := by
          by_cases h2 : K t = 2
          · rw [if_pos (decide_eq_true h2)]
          · rw [if_neg (fun z => h2 (of_decide_eq_true z))]
            exact if_neg (by rw [if_pos (by omega)]; decide)
        rw [e3]
        obtain ⟨i, hi1, hi2⟩ := hit
        rw [hi2]
        unfold fX9_expression_196
        generalize hυ : sI (sI (sI σ 153 (500 * s + c + it.length) (nI i.1)) 154 (500 * s + c + it.length) i.2) 132 33 (nI (500 * s + c + it.length + 1)) = υ
        have fE : frR (okE s c) σ0 υ := by
          rw [← hυ]
          exact ((fr.i (by unfold okE; omega)).i (by unfold okE; omega)).i (by unfold okE; omega)
        have gn : ∀ k j, k ≠ 153 → k ≠ 154 → (k = 132 → j ≠ 33) → gi υ k j = gi σ k j := by
          intro k j q1 q2 q3
          rw [← hυ]
          by_cases z : k = 132
          · subst z; rw [gi_nj (q3 rfl), gi_ne q2, gi_ne q1]
          · rw [gi_ne z, gi_ne q2, gi_ne q1]
        have g11 : gi υ 132 11 = nI t := by rw [gn _ _ (by decide) (by decide) (by decide)]; exact e11
        have g12 : gi υ 132 12 = nI (opnW wt) := by rw [gn _ _ (by decide) (by decide) (by decide)]; exact e12
        have g13 : gi υ 132 13 = 0 := by rw [gn _ _ (by decide) (by decide) (by decide)]; exact e13
        have g37 : gi υ 132 37 = nI wt.length := by rw [gn _ _ (by decide) (by decide) (by decide)]; exact e37
        have g33 : gi υ 132 33 = nI (500 * s + c + it.length + 1) := by rw [← hυ, gi_eq]
        have g155 : stk (gi υ 155) (wt.map wM) := stk_congr (fun j _ => gn _ _ (by decide) (by decide) (fun z => by cases z)) e155
        have gC : sgM (gi υ 153) (gi υ 154) (500 * s + c) (it ++ [i]) := by
          refine sgM_app.mpr ⟨sgM_congr (fun j j1 j2 => ?_) eC, ?_, ?_, trivial⟩
          · rw [← hυ, gi_ne (by decide), gi_ne (by decide), gi_nj (by omega), gi_ne (by decide), gi_nj (by omega), gi_ne (by decide)]
            exact ⟨rfl, rfl⟩
          · rw [← hυ, gi_ne (by decide), gi_ne (by decide), gi_eq]
          · rw [← hυ, gi_ne (by decide), gi_eq]
        by_cases t4 : t = 400
        · subst t4
          rw [next_end g13 g11 (by rw [gn _ _ (by decide) (by decide) (fun z => by cases z)]; exact k2)]
          simp only [Option.bind_some]
          obtain ⟨mm, hmm⟩ := FU_k 1 (by decide)
          rw [hmm]
          refine (exp_flt (d := 500 * s + c + it.length + 1) (f := 2) w1 (by omega) (by omega) ?_ ?_ ?_ ?_ (by decide) (by decide)).mono (fun x z => ?_)
          · rw [gi_nj (by decide), gi_nj (by decide)]; exact g37
          · exact stk_congr (fun j _ => by rw [gi_ne (by decide), gi_ne (by decide)]) g155
          · rw [gi_nj (by decide), gi_nj (by decide)]; exact g33
          · rw [gi_nj (by decide), gi_eq]; rfl
          · have hfin : finR K P V 400 (mkQ 3 B it wt) = (2, P 400, [], -1) := fin_too ht hm h0 (Or.inl rfl)
            rw [hfin] at hF
            refine ⟨((fE.i (by unfold okE; omega)).i (by unfold okE; omega)).tr (z.mono (fun k j y => okO_E (by omega) (by omega) y)), Or.inr ?_⟩
            rw [← hF]
            refine ⟨⟨(show (2 : Nat) ≠ 0 by decide), (show (2 : Nat) ≤ 2 by decide)⟩, ?_, ?_, 400, by decide, ?_⟩
            · rw [z.1 132 13 (by unfold okO; omega), gi_nj (by decide), gi_eq]; rfl
            · rw [z.1 132 14 (by unfold okO; omega), gi_eq]
            · rw [z.1 132 11 (by unfold okO; omega), gi_nj (by decide), gi_nj (by decide)]; exact g11
        · rw [next_go (by omega) g11]
          simp only [Option.bind_some]
          have hfin := fin_go (P := P) (V := V) (show t < 400 by omega) hm h0 hto
          have hwf := wfQ_take (p := P t) hw hm h0 hto (hV t)
          rw [hi1] at hfin hwf
          obtain ⟨mm, hmm⟩ := FU_k (401 + 1) (by decide)
          rw [hmm, ← Nat.add_assoc]
          refine exp_200 hs hK hV hT hf 401 mm (t + 1) (it ++ [i]) wt _ (by omega) (by omega) (fun t' it' wt' x q1 q2 q3 => ih m t' it' wt' x (by omega) (by omega) q2 q3) ⟨⟨by omega, fun j hj => ?_⟩, hwf, gi_eq, ?_, ?_, ⟨?_, ?_⟩, ?_, ?_, ?_, fE.i (by unfold okE; omega)⟩ (by rw [← hfin]; exact hF)
          · by_cases z : j = t
            · rw [z]; exact h0
            · exact hz j (by omega)
          · rw [gi_nj (by decide)]; exact g12
          · rw [gi_nj (by decide)]; exact g13
          · rw [gi_nj (by decide)]; exact g37
          · exact stk_congr (fun j _ => gi_ne (by decide)) g155
          · rw [gi_nj (by decide), g33, List.length_append]; rfl
          · exact sgM_congr (fun j _ _ => ⟨gi_ne (by decide), gi_ne (by decide)⟩) gC
          · rw [List.length_append]; simp only [List.length_cons, List.length_nil]; omega
      · have hm : ¬ mayS (mkQ 3 B it wt) (K t) = true := by
          rw [may3]
          exact fun z => by have := of_decide_eq_true z; omega
        have hfin : finR K P V t (mkQ 3 B it wt) = (1, P t, [], -1) := fin_no ht hm
        rw [hfin] at hF
        rw [if_neg (show ¬ decide (K t = 2) = true from fun z => hu (Or.inl (of_decide_eq_true z))), if_neg (show ¬ (9 ≤ K t ∧ K t ≤ 16) by omega), if_pos rfl, fail_eq e13 ht e11 k2]
        simp only [Option.bind_some]
        unfold fX9_expression_150
        rw [gi_nj (by decide), gi_eq, if_neg (by decide)]
        refine ⟨_, rfl, (fr.i (by unfold okE; omega)).i (by unfold okE; omega), Or.inr ?_⟩
        rw [← hF]
        refine ⟨⟨(show (1 : Nat) ≠ 0 by decide), (show (1 : Nat) ≤ 2 by decide)⟩, ?_, gi_eq, t, ht, ?_⟩
        · rw [gi_nj (by decide), gi_eq]; rfl
        · rw [gi_nj (by decide), gi_nj (by decide)]; exact e11
theorem exp_ok {K P : Nat → Nat} {V : Nat → Int32} {s c t : Nat} {B : BS} {σ : PS} (hs : s ≤ 1) (hK : ∀ i, K i ≤ 26) (hV : ∀ i, K i = 2 → isN (V i) 0 9999) (hT : TKN K P V σ) (ht : t ≤ 400) (hz : ∀ j, j < t → K j ≠ 0) (hw : wfQ (mkQ 3 B [] [])) (e11 : gi σ 132 11 = nI t) (e12 : gi σ 132 12 = 0) (e13 : gi σ 132 13 = 0) (e33 : gi σ 132 33 = nI (500 * s + c)) (hc : c ≤ t) : hO (fX9_expression σ) (EP K P V s c B t (finR K P V t (mkQ 3 B [] [])) σ) := by
  unfold fX9_expression
  rw [gi_nj (by decide), e12]
  obtain ⟨m, hm⟩ := FU_k (401 + 1) (by decide)
  rw [hm, ← Nat.add_assoc]
  refine exp_12 hs hK hV hT 401 m t [] [] _ (by omega) (by omega) ⟨⟨ht, hz⟩, hw, ?_, ?_, ?_, ⟨gi_eq, trivial⟩, ?_, trivial, by simp; omega, frR.rf.i (by unfold okE; omega)⟩ rfl
  · rw [gi_nj (by decide)]; exact e11
  · rw [gi_nj (by decide), e12]; rfl
  · rw [gi_nj (by decide)]; exact e13
  · rw [gi_nj (by decide), e33]; rfl
theorem exp_no {f : Nat} {σ : PS} (h : gi σ 132 13 = nI f) (hf : f ≠ 0) (hf2 : f ≤ 2) : fX9_expression σ = some (sI σ 132 37 0) := by
  unfold fX9_expression
  obtain ⟨m, hm⟩ := FU_k 1 (by decide)
  rw [hm, fX9_expression_12, if_neg (by decide), gi_nj (by decide), h, if_neg (e_ne (k := 0) (by rfl) hf (by omega) (by decide))]
