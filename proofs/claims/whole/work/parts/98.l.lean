/-! the reference's rule: its end, its condition -/
def okc (s : Nat) (k j : Nat) : Prop := (k = 132 ∧ (j = 11 ∨ j = 12 ∨ j = 13 ∨ j = 14 ∨ j = 15 ∨ j = 16 ∨ j = 33 ∨ j = 37)) ∨ ((k = 140 ∨ k = 147) ∧ j = s) ∨ (141 ≤ k ∧ k ≤ 146 ∧ 20 * s ≤ j ∧ j < 20 * s + 20) ∨ (148 ≤ k ∧ k ≤ 152 ∧ 200 * s ≤ j ∧ j < 200 * s + 200) ∨ ((k = 153 ∨ k = 154) ∧ 500 * s ≤ j ∧ j < 500 * s + 500) ∨ k = 155
theorem okE_c {s c k j : Nat} (h : okE s c k j) : okc s k j := by
  rcases h with ⟨h1, h2⟩ | ⟨h1, h2, h3⟩ | h
  · exact Or.inl ⟨h1, by omega⟩
  · exact Or.inr (Or.inr (Or.inr (Or.inr (Or.inl ⟨h1, by omega, h3⟩))))
  · exact Or.inr (Or.inr (Or.inr (Or.inr (Or.inr h))))
theorem okL_c {s c g k j : Nat} (hg : g < 200) (h : okL s c g k j) : okc s k j := by
  rcases h with h | ⟨h1, h2⟩ | ⟨h1, h2, h3⟩
  · exact okE_c h
  · exact Or.inr (Or.inl ⟨Or.inr h1, h2⟩)
  · exact Or.inr (Or.inr (Or.inr (Or.inl ⟨h1, h2, by omega, by omega⟩)))
theorem okc_2 {s j : Nat} (h : j = 11 ∨ j = 12 ∨ j = 13 ∨ j = 14 ∨ j = 15 ∨ j = 16 ∨ j = 33 ∨ j = 37) : okc s 132 j := Or.inl ⟨rfl, h⟩
theorem okc_0 {s : Nat} : okc s 140 s := Or.inr (Or.inl ⟨Or.inl rfl, rfl⟩)
theorem okc_1 {s k i : Nat} (h1 : 141 ≤ k) (h2 : k ≤ 146) (h3 : i < 20) : okc s k (20 * s + i) := Or.inr (Or.inr (Or.inl ⟨h1, h2, by omega, by omega⟩))
def Z0 (rs : List RU) (wr : Int32) : QS := ((0, 0), (rs, wr), (0, 0, []), ([], true, 0, []), [], [])
def TP (K P : Nat → Nat) (V : Nat → Int32) (s t0 : Nat) (F : FQ) (σ0 τ : PS) : Prop := frR (okc s) σ0 τ ∧ ((∃ t c g rs wr, t0 < t ∧ finR K P V t (Z0 rs wr) = F ∧ wfQ (Z0 rs wr) ∧ RC K P V s t c g rs wr τ) ∨ (FL F τ ∧ ∃ n g, CRn s n g τ))
def CU (s k so : Nat) (lo : Int32) (va : List IT) (p c g : Nat) (σ : PS) : Prop := gi σ 141 (20 * s + k) = nI so ∧ gi σ 142 (20 * s + k) = (if so = 0 then -1 else lo) ∧ gi σ 143 (20 * s + k) = nI p ∧ gi σ 144 (20 * s + k) = nI (p + va.length) ∧ 500 * s ≤ p ∧ p + va.length ≤ 500 * s + c ∧ sgM (gi σ 153) (gi σ 154) p va ∧ gi σ 145 (20 * s + k) = nI g
theorem CU_fr {s k so : Nat} {lo : Int32} {va : List IT} {p c d g : Nat} {σ τ : PS} (h : CU s k so lo va p c g σ) (h1 : ∀ a, 141 ≤ a → a ≤ 145 → gi τ a (20 * s + k) = gi σ a (20 * s + k)) (h2 : ∀ j, 500 * s ≤ j → j < 500 * s + c → gi τ 153 j = gi σ 153 j ∧ gi τ 154 j = gi σ 154 j) (hd : c ≤ d) : CU s k so lo va p d g τ := by
  obtain ⟨a1, a2, a3, a4, a5, a6, a7, a8⟩ := h
  exact ⟨by rw [h1 _ (by decide) (by decide)]; exact a1, by rw [h1 _ (by decide) (by decide)]; exact a2, by rw [h1 _ (by decide) (by decide)]; exact a3, by rw [h1 _ (by decide) (by decide)]; exact a4, a5, by omega, sgM_congr (fun j j1 j2 => h2 j (by omega) (by omega)) a7, by rw [h1 _ (by decide) (by decide)]; exact a8⟩
theorem RC.must_y {K P : Nat → Nat} {V : Nat → Int32} {s t c g k : Nat} {rs : List RU} {wr x : Int32} {σ : PS} (h : RC K P V s t c g rs wr σ) (hK : ∀ i, K i ≤ 26) (hx : x = nI (rkF k)) (hk1 : k ≠ 1) (hk : K t = k) : fX9_must x σ = fX9_next σ := by
  have h26 := hK t
  unfold fX9_must
  rw [is_eq (j := k) hx (by omega) hk1 h26 h.2.1.2.2.1 h.1.1 h.2.1.1 h.tok.1]
  simp only [Option.bind_some]
  rw [ite_tb, if_pos (decide_eq_true hk)]
  cases fX9_next σ <;> rfl
theorem RC.must_n {K P : Nat → Nat} {V : Nat → Int32} {s t c g k : Nat} {rs : List RU} {wr x : Int32} {σ : PS} (h : RC K P V s t c g rs wr σ) (hK : ∀ i, K i ≤ 26) (hx : x = nI (rkF k)) (hk1 : k ≠ 1) (hk27 : k < 27) (hk : K t ≠ k) : fX9_must x σ = fX9_fail 1 σ := by
  have h26 := hK t
  unfold fX9_must
  rw [is_eq (j := k) hx hk27 hk1 h26 h.2.1.2.2.1 h.1.1 h.2.1.1 h.tok.1]
  simp only [Option.bind_some]
  rw [ite_tb, if_neg (fun z => hk (of_decide_eq_true z))]
  cases fX9_fail 1 σ <;> rfl
theorem t332_no {F : FQ} {x2 : Int32} {σ : PS} (h : FL F σ) : fX9_tellRule_332 x2 σ = some σ := by
  obtain ⟨⟨h1, h2⟩, h3, _⟩ := h
  unfold fX9_tellRule_332
  rw [must_no h3 h1 h2]
  simp only [Option.bind_some]
  rw [h3, if_neg (r_nle (k := 0) (by rfl) (by omega) (by omega))]
theorem t276_no {F : FQ} {n : Nat} {x2 x3 x4 : Int32} {σ : PS} (h : FL F σ) : fX9_tellRule_276 (n + 1) x2 x3 x4 σ = some σ := by
  rw [fX9_tellRule_276]
  by_cases z : x3 = 0
  · rw [if_pos z, t332_no h]
  · rw [if_neg z, if_neg (by rw [h.2.1]; exact e_ne (k := 0) (by rfl) h.1.1 (by have := h.1.2; omega) (by decide)), t332_no h]
theorem t332 {K P : Nat → Nat} {V : Nat → Int32} {s t t0 c g so p g0 : Nat} {rs : List RU} {wr lo : Int32} {va : List IT} {re : List RE} {F : FQ} {σ0 σ : PS} (hs : s ≤ 1) (hK : ∀ i, K i ≤ 26) (h : RC K P V s t c g rs wr σ) (hr : rs.length < 20) (cu : CU s rs.length so lo va p c g0 σ) (hl : rlP σ s c g0 re) (hg : g = g0 + re.length) (fr : frR (okc s) σ0 σ) (ht0 : t0 ≤ t) (h17 : K t = 17 → (t < 400 → finR K P V (t + 1) (Z0 (rs ++ [(so, lo, va, re)]) wr) = F ∧ wfQ (Z0 (rs ++ [(so, lo, va, re)]) wr)) ∧ (t = 400 → F = (2, P t, [], -1))) (hn : K t ≠ 17 → F = (1, P t, [], -1)) : hO (fX9_tellRule_332 (nI (20 * s + rs.length)) σ) (TP K P V s t0 F σ0) := by
  have ht := h.1.1
  by_cases k17 : K t = 17
  · obtain ⟨h18, h19⟩ := h17 k17
    unfold fX9_tellRule_332
    rw [h.must_y hK (k := 17) (by rfl) (by decide) k17]
    by_cases t4 : t = 400
    · obtain ⟨n1, n2⟩ := h.nextE t4 F (h19 t4)
      rw [n1]
      simp only [Option.bind_some]
      have h13 := n2.1.2.1
      rw [h13, if_neg (r_nle (k := 0) (by rfl) (by have := n2.1.1.1; omega) (by have := n2.1.1.2; omega))]
      exact ⟨_, rfl, (fr.i (okc_2 (by decide))).i (okc_2 (by decide)), Or.inr ⟨n2.1, _, _, n2.2⟩⟩
    · obtain ⟨f1, f2⟩ := h18 (by omega)
      rw [next_go (by omega) h.2.1.1]
      simp only [Option.bind_some]
      have hR := h.next (by omega) (show K t ≠ 0 by omega)
      have cu' : CU s rs.length so lo va p c g0 (sI σ 132 11 (nI (t + 1))) := CU_fr cu (fun a a1 a2 => gi_ne (by omega)) (fun j _ _ => ⟨gi_ne (by decide), gi_ne (by decide)⟩) (Nat.le_refl _)
      have hl' : rlP (sI σ 132 11 (nI (t + 1))) s c g0 re := rlP_fr (n := 0) (g := g) hl ⟨fun k i a1 a2 _ => gi_ne (by omega), fun k i a1 a2 _ => gi_ne (by omega), fun j _ _ => ⟨gi_ne (by decide), gi_ne (by decide)⟩⟩ (by omega) (Nat.le_refl _)
      have fr' : frR (okc s) σ0 (sI σ 132 11 (nI (t + 1))) := fr.i (okc_2 (by decide))
      generalize sI σ 132 11 (nI (t + 1)) = τ at hR cu' hl' fr'
      obtain ⟨⟨x1, x2⟩, ⟨v1, v2, v3, v4, v5⟩, x3, ⟨x4, x5⟩, ⟨x6, x7, x8⟩, x9, x10, x11⟩ := id hR
      rw [v3, if_pos (by decide)]
      simp (disch := decide) only [gi_ne]
      rw [v4, nI_clamp (by omega), nI_clamp (by omega), x8, x7, nI_1, gd_t (inb_nI (by omega) (by decide)), gd_t (inb_nI (by omega) (by decide)), gd_t (inb_nI (by omega) (by decide)), gd_t (inb_nI (by omega) (by decide))]
      refine ⟨_, rfl, (fr'.i (okc_1 (by decide) (by decide) hr)).i okc_0, Or.inl ⟨t + 1, c, g, rs ++ [(so, lo, va, re)], wr, by omega, f1, f2, ?_⟩⟩
      generalize hω : sI (sI τ 146 (20 * s + rs.length) (nI g)) 140 s (nI (rs.length + 1)) = ω
      have gn : ∀ k j, k ≠ 140 → (k = 146 → j ≠ 20 * s + rs.length) → gi ω k j = gi τ k j := by
        intro k j a1 a2
        rw [← hω, gi_ne a1]
        by_cases z : k = 146
        · subst z; rw [gi_nj (a2 rfl)]
        · rw [gi_ne z]
      have sR : sameR s rs.length g c τ ω := ⟨fun k i a1 a2 a3 => gn _ _ (by omega) (by omega), fun k f a1 a2 a3 => gn _ _ (by omega) (by omega), fun j _ _ => ⟨gn _ _ (by decide) (by omega), gn _ _ (by decide) (by omega)⟩⟩
      refine ⟨⟨x1, x2⟩, ⟨?_, ?_, ?_, ?_, ?_⟩, RW_fr x3 (Nat.le_refl _) (gn _ _ (by decide) (by omega)) (gn _ _ (by decide) (by omega)), ⟨x4, x5⟩, ⟨?_, ?_, ?_⟩, ?_, RG_fr x10 sR (Nat.le_refl _), TKN_fr x11 (fun k j a1 a2 => gn _ _ (by omega) (by omega))⟩
      · rw [gn _ _ (by decide) (by omega)]; exact v1
      · rw [gn _ _ (by decide) (by omega)]; exact v2
      · rw [gn _ _ (by decide) (by omega)]; exact v3
      · rw [gn _ _ (by decide) (by omega)]; exact v4
      · rw [gn _ _ (by decide) (by omega)]; exact v5
      · rw [List.length_append]; simp only [List.length_cons, List.length_nil]; omega
      · rw [← hω, gi_eq, List.length_append]; rfl
      · rw [gn _ _ (by decide) (by omega)]; exact x8
      · intro k r hk
        rcases snoc_get hk with ⟨b1, b2⟩ | ⟨b1, b2⟩
        · exact bmP_fr x9 sR (Nat.le_refl _) (Nat.le_refl _) k r b2
        · subst b1 b2
          obtain ⟨c1, c2, c3, c4, c5, c6, c7, c8⟩ := cu'
          refine ⟨?_, ?_, ⟨p, ?_, ?_, c5, c6, sgM_congr (fun j _ _ => ⟨gn _ _ (by decide) (by omega), gn _ _ (by decide) (by omega)⟩) c7⟩, g0, ?_, ?_, by simp only; omega, ?_⟩
          · rw [gn _ _ (by decide) (by omega)]; exact c1
          · rw [gn _ _ (by decide) (by omega)]; exact c2
          · rw [gn _ _ (by decide) (by omega)]; exact c3
          · rw [gn _ _ (by decide) (by omega)]; exact c4
          · rw [gn _ _ (by decide) (by omega)]; exact c8
          · rw [← hω, gi_ne (by decide), gi_eq, hg]
          · exact rlP_fr hl' sR (show g0 + re.length ≤ g by omega) (Nat.le_refl _)
  · unfold fX9_tellRule_332
    rw [h.must_n hK (k := 17) (by rfl) (by decide) (by decide) k17]
    obtain ⟨n1, n2⟩ := h.fail (f := 1) (by decide) (by decide) F (hn k17)
    rw [show (1 : Int32) = nI 1 from rfl, n1]
    simp only [Option.bind_some]
    have h13 := n2.1.2.1
    rw [h13, if_neg (r_nle (k := 0) (by rfl) (by have := n2.1.1.1; omega) (by have := n2.1.1.2; omega))]
    exact ⟨_, rfl, (fr.i (okc_2 (by decide))).i (okc_2 (by decide)), Or.inr ⟨n2.1, _, _, n2.2⟩⟩
theorem tak4b (R : List RU × Int32) (S : Nat × Int32 × List IT) (re : List RE) (cn : Bool) (op : Nat) (le it : List IT) (wt : List Nat) (k p : Nat) (v : Int32) (h : k = 7 ∨ k = 8) : takS (mkQ 4 (2, R, S, (re, cn, op, le)) it wt) k v p = mkQ 3 (1, R, S, (re ++ [(cn, op, le, it ++ rlE 1 wt)], decide (k = 7), 0, [])) [] [] := by
  rcases h with rfl | rfl <;> rfl
theorem tak4e (rs : List RU) (wr : Int32) (so : Nat) (lo : Int32) (va : List IT) (re : List RE) (cn : Bool) (op : Nat) (le it : List IT) (wt : List Nat) (p : Nat) (v : Int32) : takS (mkQ 4 (2, (rs, wr), (so, lo, va), (re, cn, op, le)) it wt) 17 v p = Z0 (rs ++ [(so, lo, va, re ++ [(cn, op, le, it ++ rlE 1 wt)])]) wr := rfl
theorem okL_sr {s c g n : Nat} {σ τ : PS} (h : frR (okL s c g) σ τ) : sameR s n g c σ τ := ⟨fun k i k1 k2 _ => h.1 k _ (by unfold okL okE; omega), fun k f k1 k2 _ => h.1 k _ (by unfold okL okE; omega), fun j j1 j2 => ⟨h.1 153 j (by unfold okL okE; omega), h.1 154 j (by unfold okL okE; omega)⟩⟩
theorem t276 {K P : Nat → Nat} {V : Nat → Int32} {s t0 so p g0 : Nat} {rs : List RU} {wr lo : Int32} {va : List IT} {F : FQ} {σ0 : PS} (hs : s ≤ 1) (hK : ∀ i, K i ≤ 26) (hV : ∀ i, K i = 2 → isN (V i) 0 9999) (hr : rs.length < 20) : ∀ (q m t c g : Nat) (re : List RE) (cn : Bool) (σ : PS), 401 ≤ t + q → RC K P V s t c g rs wr σ → CU s rs.length so lo va p c g0 σ → rlP σ s c g0 re → g = g0 + re.length → frR (okc s) σ0 σ → t0 ≤ t → wfQ (mkQ 3 (1, (rs, wr), (so, lo, va), (re, cn, 0, [])) [] []) → finR K P V t (mkQ 3 (1, (rs, wr), (so, lo, va), (re, cn, 0, [])) [] []) = F → hO (fX9_tellRule_276 (m + q + 1) (nI (20 * s + rs.length)) 1 (tb cn) σ) (TP K P V s t0 F σ0) := by
  intro q
  induction q with
  | zero =>
    intro m t c g re cn σ hq h
    have := h.1.1
    omega
  | succ q ih =>
    intro m t c g re cn σ hq h cu hl hg fr ht0 hw hF
    rw [show m + (q + 1) + 1 = (m + q + 1) + 1 by omega, fX9_tellRule_276, if_neg (by decide), if_pos h.2.1.2.2.1]
    have ex := rela_ok hs hK hV h hw
    rw [hF] at ex
    have hg3 : g < 200 := by have := h.2.2.2.1.2; have := h.1.1; omega
    refine hO.then ex (fun τ hp => ?_)
    rcases hp with ⟨t', c', op, le, it, wt, b1, b2, b3, b4, b5, b6, b7, b8, b9⟩ | ⟨n2, fr2⟩
    · have hk := hK t'
      have frc : frR (okc s) σ0 τ := fr.tr (b5.mono (fun k j z => okL_c hg3 z))
      have cu' : CU s rs.length so lo va p c' g0 τ := CU_fr cu (fun a a1 a2 => b5.1 a _ (by unfold okL okE; omega)) (okL_sr (n := 0) b5).2.2 b2
      have hl' : rlP τ s c' g0 (re ++ [(cn, op, le, it ++ rlE 1 wt)]) := by
        intro i r hi
        rcases snoc_get hi with ⟨z1, z2⟩ | ⟨z1, z2⟩
        · exact rlP_fr (n := 0) hl (okL_sr b5) (by omega) b2 i r z2
        · subst z1 z2
          rw [← hg]
          exact b4
      have hg' : g + 1 = g0 + (re ++ [(cn, op, le, it ++ rlE 1 wt)]).length := by rw [List.length_append]; simp only [List.length_cons, List.length_nil]; omega
      have hm : ∀ k, ¬ (18 ≤ k ∧ k ≤ 20) → mayS (mkQ 4 (2, (rs, wr), (so, lo, va), (re, cn, op, le)) it wt) k = decide (k = 8 ∨ k = 7 ∨ k = 17) := by
        intro k z
        rw [may4, if_neg z, if_pos b6, if_neg (show ¬ (2 : Nat) = 1 by decide), if_pos rfl]
      have ht' := b3.1.1
      rw [is_eq (j := 7) (by rfl) (by decide) (by decide) hk b3.2.1.2.2.1 ht' b3.2.1.1 b3.tok.1]
      simp only [Option.bind_some]
      rw [is_eq (j := 8) (by rfl) (by decide) (by decide) hk b3.2.1.2.2.1 ht' b3.2.1.1 b3.tok.1]
      simp only [Option.bind_some]
      rw [ite_tb, ite_tb]
      by_cases h78 : K t' = 7 ∨ K t' = 8
      · have e : (if decide (K t' = 7) = true then fX9_tellRule_315 (fX9_tellRule_276 (m + q + 1)) (nI (20 * s + rs.length)) (tb (decide (K t' = 7))) τ else if decide (K t' = 8) = true then fX9_tellRule_315 (fX9_tellRule_276 (m + q + 1)) (nI (20 * s + rs.length)) (tb (decide (K t' = 7))) τ else fX9_tellRule_320 (fX9_tellRule_276 (m + q + 1)) (nI (20 * s + rs.length)) (tb (decide (K t' = 7))) 0 τ) = fX9_tellRule_315 (fX9_tellRule_276 (m + q + 1)) (nI (20 * s + rs.length)) (tb (decide (K t' = 7))) τ := by
          by_cases z : K t' = 7
          · rw [if_pos (decide_eq_true z)]
          · rw [if_neg (fun y => z (of_decide_eq_true y)), if_pos (decide_eq_true (by omega))]
        rw [e]
        unfold fX9_tellRule_315 fX9_tellRule_320
        rw [if_neg (by decide)]
        have hm' : mayS (mkQ 4 (2, (rs, wr), (so, lo, va), (re, cn, op, le)) it wt) (K t') = true := by rw [hm _ b7]; exact decide_eq_true (by omega)
        have h0 : K t' ≠ 0 := by omega
        have hto : ¬ tooS (mkQ 4 (2, (rs, wr), (so, lo, va), (re, cn, op, le)) it wt) (K t') = true := by
          rw [too4]
          exact fun z => by have := of_decide_eq_true z; omega
        by_cases t4 : t' = 400
        · have hfin : finR K P V t' (mkQ 4 (2, (rs, wr), (so, lo, va), (re, cn, op, le)) it wt) = (2, P t', [], -1) := fin_too ht' hm' h0 (Or.inl t4)
          obtain ⟨n1, n2⟩ := b3.nextE t4 F (by rw [← b9, hfin])
          rw [n1]
          simp only [Option.bind_some]
          rw [t276_no n2.1]
          exact ⟨_, rfl, (frc.i (okc_2 (by decide))).i (okc_2 (by decide)), Or.inr ⟨n2.1, _, _, n2.2⟩⟩
        · have hfin := fin_go (P := P) (V := V) (show t' < 400 by omega) hm' h0 hto
          have hwf := wfQ_take (p := P t') b8 hm' h0 hto (hV t')
          rw [tak4b _ _ _ _ _ _ _ _ _ _ _ h78] at hfin hwf
          rw [next_go (by omega) b3.2.1.1]
          simp only [Option.bind_some]
          refine ih m (t' + 1) c' (g + 1) _ _ _ (by omega) (b3.next (by omega) h0) (CU_fr cu' (fun a a1 a2 => gi_ne (by omega)) (fun j _ _ => ⟨gi_ne (by decide), gi_ne (by decide)⟩) (Nat.le_refl _)) ?_ hg' (frc.i (okc_2 (by decide))) (by omega) hwf (by rw [← hfin]; exact b9)
          exact rlP_fr (n := 0) (g := g + 1) hl' ⟨fun k i a1 a2 _ => gi_ne (by omega), fun k i a1 a2 _ => gi_ne (by omega), fun j _ _ => ⟨gi_ne (by decide), gi_ne (by decide)⟩⟩ (by omega) (Nat.le_refl _)
      · rw [if_neg (fun y => h78 (Or.inl (of_decide_eq_true y))), if_neg (fun y => h78 (Or.inr (of_decide_eq_true y)))]
        unfold fX9_tellRule_320
        rw [if_pos rfl, fX9_tellRule_276, if_pos rfl]
        refine t332 hs hK b3 hr cu' hl' hg' frc (by omega) (fun k17 => ?_) (fun k17 => ?_)
        · have hm' : mayS (mkQ 4 (2, (rs, wr), (so, lo, va), (re, cn, op, le)) it wt) (K t') = true := by rw [hm _ b7]; exact decide_eq_true (by omega)
          have h0 : K t' ≠ 0 := by omega
          have hto : ¬ tooS (mkQ 4 (2, (rs, wr), (so, lo, va), (re, cn, op, le)) it wt) (K t') = true := by
            rw [too4]
            exact fun z => by have := of_decide_eq_true z; omega
          refine ⟨fun t4 => ?_, fun t4 => ?_⟩
          · have hfin := fin_go (P := P) (V := V) t4 hm' h0 hto
            have hwf := wfQ_take (p := P t') b8 hm' h0 hto (hV t')
            rw [k17, tak4e] at hfin hwf
            exact ⟨by rw [← hfin]; exact b9, hwf⟩
          · rw [← b9]; exact fin_too ht' hm' h0 (Or.inl t4)
        · rw [← b9]
          refine fin_no ht' ?_
          rw [hm _ b7]
          exact fun z => by have := of_decide_eq_true z; omega
    · have frc : frR (okc s) σ0 τ := fr.tr (fr2.mono (fun k j z => okE_c z))
      obtain ⟨⟨y1, y2⟩, y3, y4, u, y5, y6⟩ := id n2.1
      rw [is_no y3 y1 y2]
      simp only [Option.bind_some]
      rw [is_no y3 y1 y2]
      simp only [Option.bind_some]
      rw [if_pos trivial, if_pos trivial]
      unfold fX9_tellRule_320
      rw [if_pos rfl, t276_no n2.1]
      exact ⟨_, rfl, frc, Or.inr ⟨n2.1, _, _, n2.2⟩⟩
