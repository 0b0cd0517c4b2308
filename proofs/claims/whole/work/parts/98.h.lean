/-! the reference's expression -/
abbrev BS : Type := Nat × (List RU × Int32) × (Nat × Int32 × List IT) × (List RE × Bool × Nat × List IT)
def mkQ (aw : Nat) (B : BS) (it : List IT) (wt : List Nat) : QS := ((aw, B.1), B.2.1, B.2.2.1, B.2.2.2, it, wt)
def EX (K : Nat → Nat) (s c aw : Nat) (B : BS) (t : Nat) (it : List IT) (wt : List Nat) (σ0 σ : PS) : Prop := (t ≤ 400 ∧ ∀ j, j < t → K j ≠ 0) ∧ wfQ (mkQ aw B it wt) ∧ gi σ 132 11 = nI t ∧ gi σ 132 12 = nI (opnW wt) ∧ gi σ 132 13 = 0 ∧ (gi σ 132 37 = nI wt.length ∧ stk (gi σ 155) (wt.map wM)) ∧ gi σ 132 33 = nI (500 * s + c + it.length) ∧ sgM (gi σ 153) (gi σ 154) (500 * s + c) it ∧ c + it.length + wt.length ≤ t ∧ frR (okE s c) σ0 σ
def FL (F : FQ) (τ : PS) : Prop := (F.1 ≠ 0 ∧ F.1 ≤ 2) ∧ gi τ 132 13 = nI F.1 ∧ gi τ 132 14 = nI F.2.1 ∧ ∃ t, t ≤ 400 ∧ gi τ 132 11 = nI t
def EO (K P : Nat → Nat) (V : Nat → Int32) (s c : Nat) (B : BS) (t0 : Nat) (F : FQ) (τ : PS) : Prop := ∃ t it wt, t0 < t ∧ (t ≤ 400 ∧ ∀ j, j < t → K j ≠ 0) ∧ wfQ (mkQ 4 B it wt) ∧ opnW wt = 0 ∧ ¬ (18 ≤ K t ∧ K t ≤ 20) ∧ finR K P V t (mkQ 4 B it wt) = F ∧ (gi τ 132 11 = nI t ∧ gi τ 132 12 = 0 ∧ gi τ 132 13 = 0) ∧ gi τ 132 33 = nI (500 * s + c + (it ++ rlE 1 wt).length) ∧ sgM (gi τ 153) (gi τ 154) (500 * s + c) (it ++ rlE 1 wt) ∧ c + (it ++ rlE 1 wt).length ≤ t
def EP (K P : Nat → Nat) (V : Nat → Int32) (s c : Nat) (B : BS) (t0 : Nat) (F : FQ) (σ0 τ : PS) : Prop := frR (okE s c) σ0 τ ∧ (EO K P V s c B t0 F τ ∨ FL F τ)
theorem sgM_app {f g : Nat → Int32} {l m : List IT} : ∀ {p : Nat}, sgM f g p (l ++ m) ↔ sgM f g p l ∧ sgM f g (p + l.length) m := by
  induction l with
  | nil => intro p; simp [sgM]
  | cons a l ih =>
    intro p
    simp only [List.cons_append, sgM, List.length_cons]
    rw [ih, show p + 1 + l.length = p + (l.length + 1) by omega, and_assoc, and_assoc]
theorem okO_E {s c d l k j : Nat} (h1 : 500 * s + c ≤ d) (h2 : d + l ≤ 500 * s + 500) (h : okO d l k j) : okE s c k j := by
  unfold okO at h
  unfold okE
  omega
theorem wf_wt {aw : Nat} {B : BS} {it : List IT} {wt : List Nat} (h : wfQ (mkQ aw B it wt)) : okW 3 wt ∧ opnW wt ≤ 6 ∧ wt.length ≤ 20 := by
  obtain ⟨pt, ⟨rs, wr⟩, ⟨so, lo, va⟩, re, cn, op, le⟩ := B
  obtain ⟨_, a1, a2, a3, a4, a5, a6, a7, a8, _⟩ := h
  have h1 := okW_bd (by decide) a7
  have h2 := len_W wt
  exact ⟨a7, a8, by omega⟩
theorem may3 (B : BS) (it : List IT) (wt : List Nat) (k : Nat) : mayS (mkQ 3 B it wt) k = decide (k = 2 ∨ k = 25 ∨ (9 ≤ k ∧ k ≤ 16)) := rfl
theorem may4 (B : BS) (it : List IT) (wt : List Nat) (k : Nat) : mayS (mkQ 4 B it wt) k = if 18 ≤ k ∧ k ≤ 20 then true else if opnW wt = 0 then (if B.1 = 1 then decide (21 ≤ k ∧ k ≤ 24) else if B.1 = 2 then decide (k = 8 ∨ k = 7 ∨ k = 17) else decide (k = 6 ∨ k = 17)) else decide (k = 26) := rfl
theorem too3 (B : BS) (it : List IT) (wt : List Nat) (k : Nat) : tooS (mkQ 3 B it wt) k = decide (k = 25 ∧ 6 ≤ opnW wt) := rfl
theorem too4 (B : BS) (it : List IT) (wt : List Nat) (k : Nat) : tooS (mkQ 4 B it wt) k = decide (k = 25 ∧ 6 ≤ opnW wt) := rfl
theorem tak3 (B : BS) (it : List IT) (wt : List Nat) (k p : Nat) (v : Int32) : takS (mkQ 3 B it wt) k v p = if k = 25 then mkQ 3 B it (25 :: wt) else if k = 2 then mkQ 4 B (it ++ [(0, v)]) wt else mkQ 4 B (it ++ [(1, nI (k - 9))]) wt := rfl
theorem tak4o (B : BS) (it : List IT) (wt : List Nat) (k p : Nat) (v : Int32) (h : 18 ≤ k ∧ k ≤ 20) : takS (mkQ 4 B it wt) k v p = mkQ 3 B (it ++ rlE (rkW k) wt) (k :: rlR (rkW k) wt) := by
  show (ite (18 ≤ k ∧ k ≤ 20) _ _) = _
  rw [if_pos h]
  rfl
theorem tak4c (B : BS) (it : List IT) (wt : List Nat) (p : Nat) (v : Int32) : takS (mkQ 4 B it wt) 26 v p = mkQ 4 B (it ++ rlE 1 wt) (rlR 1 wt).tail := rfl
theorem rl_len {wt : List Nat} {r w : Nat} (h : okW w wt) (hr : 1 ≤ r) : (rlE r wt).length + (rlR r wt).length = wt.length := by
  obtain ⟨_, h2, h3⟩ := rl_ok (r := r) h hr
  have h4 := len_W wt
  have h5 := len_W (rlR r wt)
  omega
theorem tkn_at {K P : Nat → Nat} {V : Nat → Int32} {s c t : Nat} {σ0 σ : PS} (hT : TKN K P V σ0) (fr : frR (okE s c) σ0 σ) (ht : t ≤ 400) (hz : ∀ j, j < t → K j ≠ 0) : RK (K t) (gi σ 135 t) ∧ gi σ 136 t = nI (P t) ∧ (K t = 2 → gi σ 137 t = V t) := by
  rw [fr.1 135 t (by unfold okE; omega), fr.1 136 t (by unfold okE; omega), fr.1 137 t (by unfold okE; omega)]
  exact hT t ht hz
/-- behind a fault -/
theorem exp_flt {r12 : Int32 → Int32 → PS → Option (PS)} {wt : List Nat} {d w f m : Nat} {σ : PS} (ho : okW w wt) (hl : wt.length ≤ 48) (hd : d + wt.length ≤ 1000) (h7 : gi σ 132 37 = nI wt.length) (h5 : stk (gi σ 155) (wt.map wM)) (h3 : gi σ 132 33 = nI d) (h13 : gi σ 132 13 = nI f) (hf : f ≠ 0) (hf2 : f ≤ 2) : hO (fX9_expression_200 r12 (m + 1) 0 σ) (fun τ => frR (okO d wt.length) σ τ) := by
  have i0 : ∀ x, fX9_is x σ = some (0, σ) := fun x => is_no h13 hf hf2
  have o := (out_all (Or.inl ⟨rfl, rfl⟩) ho hl hd h7 h5 h3).mono (fun τ z => z.1)
  have e : fX9_expression_200 r12 (m + 1) 0 σ = (fX9_comesOut 0 σ).bind (fun σ50 => some σ50) := by
    rw [fX9_expression_200, i0]
    simp only [Option.bind_some]
    rw [if_pos trivial]
    unfold fX9_expression_249
    rw [i0]
    simp only [Option.bind_some]
    rw [if_pos trivial, i0]
    simp only [Option.bind_some]
    rw [if_pos trivial, i0]
    simp only [Option.bind_some]
    rw [if_pos trivial]
    unfold fX9_expression_281
    rw [if_pos rfl, fail_no h13 hf hf2]
    simp only [Option.bind_some]
    by_cases z : gi σ 132 12 ≤ 0
    · rw [if_pos z]
    · rw [if_neg z]
  rw [e]
  exact hO.then o (fun τ z => ⟨τ, rfl, z⟩)
theorem e249 {r12 : Int32 → Int32 → PS → Option (PS)} {k t : Nat} {σ : PS} (hk : k ≤ 26) (h : gi σ 132 13 = 0) (ht : t ≤ 400) (h1 : gi σ 132 11 = nI t) (hr : RK k (gi σ 135 t)) : fX9_expression_249 r12 0 σ = if 18 ≤ k ∧ k ≤ 20 then fX9_expression_281 r12 0 1 σ else fX9_expression_281 r12 0 0 σ := by
  unfold fX9_expression_249 fX9_expression_276
  rw [is_eq (j := 18) (by rfl) (by decide) (by decide) hk h ht h1 hr]
  simp only [Option.bind_some]
  rw [ite_tb, is_eq (j := 19) (by rfl) (by decide) (by decide) hk h ht h1 hr]
  simp only [Option.bind_some]
  rw [ite_tb, is_eq (j := 20) (by rfl) (by decide) (by decide) hk h ht h1 hr]
  simp only [Option.bind_some]
  rw [ite_tb]
  by_cases h8 : k = 18
  · rw [if_pos (decide_eq_true h8), if_pos (by omega)]
  rw [if_neg (fun z => h8 (of_decide_eq_true z))]
  by_cases h9 : k = 19
  · rw [if_pos (decide_eq_true h9), if_pos (by omega)]
  rw [if_neg (fun z => h9 (of_decide_eq_true z))]
  by_cases h0 : k = 20
  · rw [if_pos (decide_eq_true h0), if_pos (by omega)]
  rw [if_neg (fun z => h0 (of_decide_eq_true z)), if_neg (by omega)]
theorem exp_200 {K P : Nat → Nat} {V : Nat → Int32} {s c t0 : Nat} {B : BS} {F : FQ} {σ0 : PS} (hs : s ≤ 1) (hK : ∀ i, K i ≤ 26) (hV : ∀ i, K i = 2 → isN (V i) 0 9999) (hT : TKN K P V σ0) {r12 : Int32 → Int32 → PS → Option (PS)} (hf : ∀ f τ, gi τ 132 13 = nI f → f ≠ 0 → f ≤ 2 → r12 0 1 τ = some τ) : ∀ (q m t : Nat) (it : List IT) (wt : List Nat) (σ : PS), 401 ≤ t + q → t0 < t → (∀ t' it' wt' τ, t < t' → EX K s c 3 B t' it' wt' σ0 τ → finR K P V t' (mkQ 3 B it' wt') = F → hO (r12 0 1 τ) (EP K P V s c B t0 F σ0)) → EX K s c 4 B t it wt σ0 σ → finR K P V t (mkQ 4 B it wt) = F → hO (fX9_expression_200 r12 (m + q + 1) 0 σ) (EP K P V s c B t0 F σ0) := by
  intro q
  induction q with
  | zero =>
    intro m t it wt σ hq _ _ hE
    have := hE.1.1
    omega
  | succ q ih =>
    intro m t it wt σ hq ht0 hr hE hF
    obtain ⟨⟨ht, hz⟩, hw, e11, e12, e13, ⟨e37, e155⟩, e33, eC, eB, fr⟩ := hE
    obtain ⟨w1, w2, w3⟩ := wf_wt hw
    obtain ⟨k1, k2, k3⟩ := tkn_at hT fr ht hz
    have hk := hK t
    rw [show m + (q + 1) + 1 = (m + q + 1) + 1 by omega, fX9_expression_200, is_eq (j := 26) (by rfl) (by decide) (by decide) hk e13 ht e11 k1]
    simp only [Option.bind_some]
    rw [ite_tb, e12]
    by_cases hcl : K t = 26 ∧ opnW wt ≠ 0
    · obtain ⟨h26, hop⟩ := hcl
      rw [if_pos (decide_eq_true h26), if_neg (r_nle (k := 0) (by rfl) (by omega) (by omega))]
      have hm : mayS (mkQ 4 B it wt) (K t) = true := by
        rw [may4, h26, if_neg (by decide), if_neg hop]; rfl
      have h0 : K t ≠ 0 := by omega
      have hto : ¬ tooS (mkQ 4 B it wt) (K t) = true := by rw [too4, h26]; simp
      refine hO.then (out_all (Or.inl ⟨rfl, rfl⟩) w1 (by omega) (by omega) e37 e155 e33) (fun τ ⟨f1, f2, f3, f4, f5⟩ => ?_)
      have fE : frR (okE s c) σ τ := f1.mono (fun k j z => okO_E (by omega) (by omega) z)
      rcases rl_1 (w := wt) with e | ⟨u, e⟩
      · have := (rl_ok (r := 1) w1 (by decide)).2.1
        rw [e] at this; simp only [opnW] at this; omega
      · have hlen := rl_len (r := 1) w1 (by decide)
        have hop2 := (rl_ok (r := 1) w1 (by decide)).2.1
        rw [e] at f2 f5 hlen hop2
        simp only [List.length_cons] at f2 hlen
        have hop3 : opnW u + 1 = opnW wt := hop2
        have g12 : gi τ 132 12 = nI (opnW wt) := by rw [f1.1 132 12 (by unfold okO; omega)]; exact e12
        rw [f2, show nI (u.length + 1) - 1 = nI u.length from nI_pred _, gi_nj (by decide), g12, ← hop3, show nI (opnW u + 1) - 1 = nI (opnW u) from nI_pred _]
        have g11 : gi (sI (sI τ 132 37 (nI u.length)) 132 12 (nI (opnW u))) 132 11 = nI t := by rw [gi_nj (by decide), gi_nj (by decide), f1.1 132 11 (by unfold okO; omega)]; exact e11
        have g13 : gi (sI (sI τ 132 37 (nI u.length)) 132 12 (nI (opnW u))) 132 13 = 0 := by rw [gi_nj (by decide), gi_nj (by decide), f1.1 132 13 (by unfold okO; omega)]; exact e13
        have g33 : gi (sI (sI τ 132 37 (nI u.length)) 132 12 (nI (opnW u))) 132 33 = nI (500 * s + c + it.length + (rlE 1 wt).length) := by rw [gi_nj (by decide), gi_nj (by decide)]; exact f3
        have fE2 : frR (okE s c) σ0 (sI (sI τ 132 37 (nI u.length)) 132 12 (nI (opnW u))) := ((fr.tr fE).i (by unfold okE; omega)).i (by unfold okE; omega)
        have wu : okW 3 u := by
          have := (rl_ok (r := 1) w1 (by decide)).1
          rw [e] at this
          simp only [okW, if_pos] at this
          exact this
        simp only [List.map_cons, stk] at f5
        by_cases t4 : t = 400
        · subst t4
          rw [next_end g13 g11 (by rw [gi_ne (by decide), gi_ne (by decide), f1.1 136 400 (by unfold okO; omega)]; exact k2)]
          simp only [Option.bind_some]
          refine (exp_flt (d := 500 * s + c + it.length + (rlE 1 wt).length) (f := 2) wu (by omega) (by omega) ?_ ?_ ?_ ?_ (by decide) (by decide)).mono (fun υ z => ?_)
          · rw [gi_nj (by decide), gi_nj (by decide), gi_nj (by decide), gi_eq]
          · exact stk_congr (fun j _ => by rw [gi_ne (by decide), gi_ne (by decide), gi_ne (by decide), gi_ne (by decide)]) f5.2
          · rw [gi_nj (by decide), gi_nj (by decide)]; exact g33
          · rw [gi_nj (by decide), gi_eq]; rfl
          · have hfin : finR K P V 400 (mkQ 4 B it wt) = (2, P 400, [], -1) := fin_too ht hm h0 (Or.inl rfl)
            rw [hfin] at hF
            refine ⟨((fE2.i (by unfold okE; omega)).i (by unfold okE; omega)).tr (z.mono (fun k j y => okO_E (by omega) (by omega) y)), Or.inr ?_⟩
            rw [← hF]
            refine ⟨⟨(show (2 : Nat) ≠ 0 by decide), (show (2 : Nat) ≤ 2 by decide)⟩, ?_, ?_, 400, by decide, ?_⟩
            · rw [z.1 132 13 (by unfold okO; omega), gi_nj (by decide), gi_eq]; rfl
            · rw [z.1 132 14 (by unfold okO; omega), gi_eq]
            · rw [z.1 132 11 (by unfold okO; omega), gi_nj (by decide), gi_nj (by decide)]; exact g11
        · rw [next_go (by omega) g11]
          simp only [Option.bind_some]
          have hfin := fin_go (P := P) (V := V) (show t < 400 by omega) hm h0 hto
          have hwf := wfQ_take (p := P t) hw hm h0 hto (hV t)
          rw [h26, tak4c, e, List.tail_cons] at hfin hwf
          refine ih m (t + 1) (it ++ rlE 1 wt) u _ (by omega) (by omega) (fun t' it' wt' υ q1 => hr t' it' wt' υ (by omega)) ⟨⟨by omega, fun j hj => ?_⟩, hwf, gi_eq, ?_, ?_, ⟨?_, ?_⟩, ?_, ?_, ?_, fE2.i (by unfold okE; omega)⟩ (by rw [← hfin]; exact hF)
          · by_cases z : j = t
            · rw [z]; exact h0
            · exact hz j (by omega)
          · rw [gi_nj (by decide), gi_eq]
          · rw [gi_nj (by decide)]; exact g13
          · rw [gi_nj (by decide), gi_nj (by decide), gi_eq]
          · exact stk_congr (fun j _ => by rw [gi_ne (by decide), gi_ne (by decide), gi_ne (by decide)]) f5.2
          · rw [gi_nj (by decide), g33, List.length_append, Nat.add_assoc]
          · refine sgM_app.mpr ⟨sgM_congr (fun j j1 j2 => ?_) eC, sgM_congr (fun j _ _ => ?_) f4⟩
            · rw [gi_ne (by decide), gi_ne (by decide), gi_ne (by decide), gi_ne (by decide), gi_ne (by decide), gi_ne (by decide)]
              exact ⟨f1.1 153 j (by unfold okO; omega), f1.1 154 j (by unfold okO; omega)⟩
            · rw [gi_ne (by decide), gi_ne (by decide), gi_ne (by decide), gi_ne (by decide), gi_ne (by decide), gi_ne (by decide)]
              exact ⟨rfl, rfl⟩
          · rw [List.length_append]; omega
    · have e2 : (if decide (K t = 26) = true then (if nI (opnW wt) ≤ 0 then fX9_expression_249 r12 0 σ else (fX9_comesOut 0 σ).bind (fun σ34 => (fX9_next (sI (sI σ34 132 37 ((gi σ34 132 37) - 1)) 132 12 ((gi (sI σ34 132 37 ((gi σ34 132 37) - 1)) 132 12) - 1))).bind (fun σ37 => fX9_expression_200 r12 (m + q + 1) 0 σ37))) else fX9_expression_249 r12 0 σ) = fX9_expression_249 r12 0 σ := by
        by_cases h26 : K t = 26
        · have : opnW wt = 0 := by
            by_cases z : opnW wt = 0
            · exact z
            · exact absurd ⟨h26, z⟩ hcl
          rw [if_pos (decide_eq_true h26), this, if_pos (show nI 0 ≤ 0 by decide)]
        · rw [if_neg (fun z => h26 (of_decide_eq_true z))]
      rw [e2, e249 hk e13 ht e11 k1]
      by_cases hop : 18 ≤ K t ∧ K t ≤ 20
      · rw [if_pos hop]
        have h0 : K t ≠ 0 := by omega
        have hm : mayS (mkQ 4 B it wt) (K t) = true := by rw [may4, if_pos hop]
        have hto : ¬ tooS (mkQ 4 B it wt) (K t) = true := by
          rw [too4]
          exact fun z => by have := of_decide_eq_true z; omega
        have e135 : gi σ 135 t = wM (K t) := by
          rcases k1 with ⟨y, _⟩ | ⟨_, y⟩
          · omega
          · exact y
        have e281 : fX9_expression_281 r12 0 1 σ = fX9_expression_329 r12 0 1 (wM (K t)) (if K t = 20 then 1 else 0) σ := by
          unfold fX9_expression_281
          rw [if_neg (by decide), e11, gd_t (inb_nI (by omega) (by decide)), nI_clamp (by omega), e135]
          have : K t = 18 ∨ K t = 19 ∨ K t = 20 := by omega
          rcases this with y | y | y <;> rw [y] <;> rfl
        rw [e281]
        unfold fX9_expression_329
        have hx : ((if K t = 20 then (1 : Int32) else 0) = 0 ∧ rkW (K t) = 1) ∨ ((if K t = 20 then (1 : Int32) else 0) = 1 ∧ rkW (K t) = 2) := by
          have : K t = 18 ∨ K t = 19 ∨ K t = 20 := by omega
          rcases this with y | y | y <;> rw [y]
          · exact Or.inl ⟨rfl, rfl⟩
          · exact Or.inl ⟨rfl, rfl⟩
          · exact Or.inr ⟨rfl, rfl⟩
        have hrk := rkW_2 (K t)
        refine hO.then (out_all hx w1 (by omega) (by omega) e37 e155 e33) (fun τ ⟨f1, f2, f3, f4, f5⟩ => ?_)
        have fE : frR (okE s c) σ τ := f1.mono (fun k j z => okO_E (by omega) (by omega) z)
        have hlen := rl_len (r := rkW (K t)) w1 hrk.1
        have hop2 := (rl_ok (r := rkW (K t)) w1 hrk.1).2.1
        rw [f2, gd_t (inb_nI (by omega) (by decide)), nI_clamp (by omega), gi_ne (by decide), f2, nI_1]
        have g11 : gi (sI (sI τ 155 (rlR (rkW (K t)) wt).length (wM (K t))) 132 37 (nI ((rlR (rkW (K t)) wt).length + 1))) 132 11 = nI t := by rw [gi_nj (by decide), gi_ne (by decide), f1.1 132 11 (by unfold okO; omega)]; exact e11
        have g13 : gi (sI (sI τ 155 (rlR (rkW (K t)) wt).length (wM (K t))) 132 37 (nI ((rlR (rkW (K t)) wt).length + 1))) 132 13 = 0 := by rw [gi_nj (by decide), gi_ne (by decide), f1.1 132 13 (by unfold okO; omega)]; exact e13
        have fE2 : frR (okE s c) σ0 (sI (sI τ 155 (rlR (rkW (K t)) wt).length (wM (K t))) 132 37 (nI ((rlR (rkW (K t)) wt).length + 1))) := ((fr.tr fE).i (by unfold okE; omega)).i (by unfold okE; omega)
        by_cases t4 : t = 400
        · subst t4
          rw [next_end g13 g11 (by rw [gi_ne (by decide), gi_ne (by decide), f1.1 136 400 (by unfold okO; omega)]; exact k2)]
          simp only [Option.bind_some]
          rw [hf 2 _ (by rw [gi_nj (by decide), gi_eq]; rfl) (by decide) (by decide)]
          have hfin : finR K P V 400 (mkQ 4 B it wt) = (2, P 400, [], -1) := fin_too ht hm h0 (Or.inl rfl)
          rw [hfin] at hF
          refine ⟨_, rfl, (fE2.i (by unfold okE; omega)).i (by unfold okE; omega), Or.inr ?_⟩
          rw [← hF]
          refine ⟨⟨(show (2 : Nat) ≠ 0 by decide), (show (2 : Nat) ≤ 2 by decide)⟩, ?_, gi_eq, 400, by decide, ?_⟩
          · rw [gi_nj (by decide), gi_eq]; rfl
          · rw [gi_nj (by decide), gi_nj (by decide)]; exact g11
        · rw [next_go (by omega) g11]
          simp only [Option.bind_some]
          have hfin := fin_go (P := P) (V := V) (show t < 400 by omega) hm h0 hto
          have hwf := wfQ_take (p := P t) hw hm h0 hto (hV t)
          rw [tak4o _ _ _ _ _ _ hop] at hfin hwf
          refine hr (t + 1) (it ++ rlE (rkW (K t)) wt) (K t :: rlR (rkW (K t)) wt) _ (by omega) ⟨⟨by omega, fun j hj => ?_⟩, hwf, gi_eq, ?_, ?_, ⟨?_, ?_⟩, ?_, ?_, ?_, fE2.i (by unfold okE; omega)⟩ (by rw [← hfin]; exact hF)
          · by_cases z : j = t
            · rw [z]; exact h0
            · exact hz j (by omega)
          · rw [gi_nj (by decide), gi_nj (by decide), gi_ne (by decide), f1.1 132 12 (by unfold okO; omega), e12]
            simp only [opnW]
            rw [if_neg (by omega), hop2]
          · rw [gi_nj (by decide)]; exact g13
          · rw [gi_nj (by decide), gi_eq, List.length_cons]
          · simp only [List.map_cons, stk, List.length_map]
            refine ⟨by rw [gi_ne (by decide), gi_ne (by decide), gi_eq], stk_congr (fun j hj => ?_) f5⟩
            rw [List.length_map] at hj
            rw [gi_ne (by decide), gi_ne (by decide), gi_nj (by omega)]
          · rw [gi_nj (by decide), gi_nj (by decide), gi_ne (by decide), f3, List.length_append, Nat.add_assoc]
          · refine sgM_app.mpr ⟨sgM_congr (fun j j1 j2 => ?_) eC, sgM_congr (fun j _ _ => ?_) f4⟩
            · rw [gi_ne (by decide), gi_ne (by decide), gi_ne (by decide), gi_ne (by decide), gi_ne (by decide), gi_ne (by decide)]
              exact ⟨f1.1 153 j (by unfold okO; omega), f1.1 154 j (by unfold okO; omega)⟩
            · rw [gi_ne (by decide), gi_ne (by decide), gi_ne (by decide), gi_ne (by decide), gi_ne (by decide), gi_ne (by decide)]
              exact ⟨rfl, rfl⟩
          · rw [List.length_append, List.length_cons]; omega
      · rw [if_neg hop]
        unfold fX9_expression_281
        rw [if_pos rfl, e12]
        by_cases ho : opnW wt = 0
        · rw [ho, if_pos (show nI 0 ≤ 0 by decide)]
          refine hO.then (out_all (Or.inl ⟨rfl, rfl⟩) w1 (by omega) (by omega) e37 e155 e33) (fun τ ⟨f1, f2, f3, f4, f5⟩ => ⟨τ, rfl, ?_⟩)
          have fE : frR (okE s c) σ τ := f1.mono (fun k j z => okO_E (by omega) (by omega) z)
          have hlen := rl_len (r := 1) w1 (by decide)
          refine ⟨fr.tr fE, Or.inl ⟨t, it, wt, ht0, ⟨ht, hz⟩, hw, ho, hop, hF, ⟨?_, ?_, ?_⟩, ?_, ?_, ?_⟩⟩
          · rw [f1.1 132 11 (by unfold okO; omega)]; exact e11
          · rw [f1.1 132 12 (by unfold okO; omega), e12, ho]; rfl
          · rw [f1.1 132 13 (by unfold okO; omega)]; exact e13
          · rw [f3, List.length_append, Nat.add_assoc]
          · exact sgM_app.mpr ⟨sgM_congr (fun j j1 j2 => ⟨f1.1 153 j (by unfold okO; omega), f1.1 154 j (by unfold okO; omega)⟩) eC, f4⟩
          · rw [List.length_append]; omega
        · rw [if_neg (r_nle (k := 0) (by rfl) (by omega) (by omega)), fail_eq e13 ht e11 k2]
          simp only [Option.bind_some]
          have hm : ¬ mayS (mkQ 4 B it wt) (K t) = true := by
            rw [may4, if_neg hop, if_neg ho]
            exact fun z => hcl ⟨of_decide_eq_true z, ho⟩
          have hfin : finR K P V t (mkQ 4 B it wt) = (1, P t, [], -1) := fin_no ht hm
          rw [hfin] at hF
          refine hO.then (out_all (Or.inl ⟨rfl, rfl⟩) w1 (d := 500 * s + c + it.length) (by omega) (by omega) ?_ ?_ ?_) (fun τ ⟨f1, f2, f3, f4, f5⟩ => ⟨τ, rfl, ?_⟩)
          · rw [gi_nj (by decide), gi_nj (by decide)]; exact e37
          · exact stk_congr (fun j _ => by rw [gi_ne (by decide), gi_ne (by decide)]) e155
          · rw [gi_nj (by decide), gi_nj (by decide)]; exact e33
          · refine ⟨((fr.i (by unfold okE; omega)).i (by unfold okE; omega)).tr (f1.mono (fun k j z => okO_E (by omega) (by omega) z)), Or.inr ?_⟩
            rw [← hF]
            refine ⟨⟨(show (1 : Nat) ≠ 0 by decide), (show (1 : Nat) ≤ 2 by decide)⟩, ?_, ?_, t, ht, ?_⟩
            · rw [f1.1 132 13 (by unfold okO; omega), gi_nj (by decide), gi_eq]; rfl
            · rw [f1.1 132 14 (by unfold okO; omega), gi_eq]
            · rw [f1.1 132 11 (by unfold okO; omega), gi_nj (by decide), gi_nj (by decide)]; exact e11
