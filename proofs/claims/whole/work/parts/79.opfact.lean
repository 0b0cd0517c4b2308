/-! shut, look, sealed -/
theorem road_iff {x : Int32} {a : Nat} (ha : a < 2 ^ 31) : (0 ≤ x ∧ x ≤ nI a - 2) ↔ ∃ k, x = nI k ∧ k + 1 < a := by
  match a, ha with
  | 0, _ =>
    constructor
    · rintro ⟨p, q⟩
      rw [show nI 0 - 2 = (-2 : Int32) by decide] at q
      exact absurd (Int32.le_trans p q) (by decide)
    · rintro ⟨k, _, h⟩; omega
  | 1, _ =>
    constructor
    · rintro ⟨p, q⟩
      rw [show nI 1 - 2 = (-1 : Int32) by decide] at q
      exact absurd (Int32.le_trans p q) (by decide)
    · rintro ⟨k, _, h⟩; omega
  | m + 2, ha =>
    rw [show (2 : Int32) = nI 2 from rfl, nI_sub (by omega), show m + 2 - 2 = m by omega, isN_of (l := 0) (lo := 0) (hi := m) rfl rfl (by decide) (by omega)]
    exact ⟨fun ⟨k, e, _, h⟩ => ⟨k, e, by omega⟩, fun ⟨k, e, h⟩ => ⟨k, e, by omega, by omega⟩⟩
theorem road_iff2 {x : Int32} {a : Nat} (ha : a < 2 ^ 31) : (¬ x < 0 ∧ ¬ nI a - 1 ≤ x) ↔ ∃ k, x = nI k ∧ k + 1 < a := by
  constructor
  · rintro ⟨h0, h1⟩
    obtain ⟨j, hj, rfl⟩ := nI_of h0
    refine ⟨j, rfl, ?_⟩
    cases a with
    | zero =>
      exfalso
      apply h1
      rw [show nI 0 - 1 = (-1 : Int32) by decide]
      exact Int32.le_trans (show (-1 : Int32) ≤ 0 by decide) (nI_pos' hj)
    | succ m =>
      rw [nI_pred, nI_leI (by omega) hj] at h1
      omega
  · rintro ⟨k, rfl, hk⟩
    refine ⟨nI_pos (by omega), ?_⟩
    rw [nI_s1 (by omega)]
    exact nI_ge (by omega) (by omega)
theorem IC_mono {a c f : Nat} {l : List RU} {σ : PS} (h : IC a c f l σ) : IC a c (f + 1) l σ := h.imp id (fun ⟨n, h1, h2⟩ => ⟨n, by omega, h2⟩)
theorem IR_mono {a c f : Nat} {l : List RU} {σ : PS} (h : IR a c f l σ) : IR a c (f + 1) l σ := h.imp id (fun ⟨n, h1, h2⟩ => ⟨n, by omega, h2⟩)
theorem IV_fact {n a c b f s : Nat} {l : List RU} {σ τ : PS} (h : IV n a c b f s l σ) (hF : IF (f + 1) τ) (hb : bkO τ = bkO σ) (hd : drO τ = drO σ) (g : ∀ k j, ¬ (25 ≤ k ∧ k ≤ 37) → (k = 132 → j ≠ 54) → (169 ≤ k → k ≤ 171 → j ≠ f) → gi τ k j = gi σ k j) : IV n a c b (f + 1) s l τ := by
  obtain ⟨h1, h2, h3, h4, h5, h6, h7⟩ := h
  have hbk := bk_or h5.1
  exact ⟨IA_fr h1 (g _ _ (by decide) (by decide) (by omega)) (fun j => g _ _ (by decide) (by omega) (by omega)) (g _ _ (by decide) (by decide) (by omega)) (fun j => g _ _ (by decide) (by omega) (by omega)), IP_fr h2 (g _ _ (by decide) (by decide) (by omega)) (g _ _ (by decide) (by decide) (by omega)), IL_fr h3 (fun k j _ _ => g k j (by omega) (by omega) (by omega)) (fun k j _ _ => g k j (by omega) (by omega) (by omega)) (g _ _ (by decide) (by decide) (by omega)) (g _ _ (by decide) (by decide) (by omega)) (g _ _ (by decide) (by decide) (by omega)), hF, IB_fr h5 hb hd (fun i hi j => g _ j (by omega) (by omega) (by omega)) (fun k j _ _ => g k j (by omega) (by omega) (by omega)) (g _ _ (by decide) (by decide) (by omega)), IC_mono (IC_fr h3.1.1 h3.1.2.1 h6 (g _ _ (by decide) (by decide) (by omega)) (fun k j _ _ => g k j (by omega) (by omega) (by omega)) (fun k j _ _ => g k j (by omega) (by omega) (by omega)) (fun k j _ _ _ => g k j (by omega) (by omega) (by omega))), IR_mono (IR_fr h7 (g _ _ (by decide) (by decide) (by omega)) (fun k j _ _ => g k j (by omega) (by omega) (by omega)) (fun k j _ _ => g k j (by omega) (by omega) (by omega)) (fun k j _ _ _ => g k j (by omega) (by omega) (by omega)))⟩
theorem fact_eq {f : Nat} {σ : PS} (x1 x2 x3 : Int32) (hf : f < 300) (h54 : gi σ 132 54 = nI f) : fX9_fact x1 x2 x3 σ = some (nI f, sI (sI (sI (sI σ 169 f x1) 170 f x2) 171 f x3) 132 54 (nI (f + 1))) := by
  unfold fX9_fact
  simp (disch := decide) only [gi_ne, gi_eq]
  rw [h54]
  simp only [gd_t (inb_nI hf (show 300 < 2 ^ 31 by decide)), nI_clamp (n := f) (show f < 2 ^ 31 by omega), nI_1]
  rw [nI_pred]
theorem add_eq {f : Nat} {σ : PS} (x1 x2 x3 : Int32) (hf : f < 300) (h25 : gi σ 25 0 = nI f) : fX0_add x1 x2 x3 σ = some (nI f, sI (sI (sI (sI σ 26 f x1) 27 f x2) 28 f (vp_nar .boolean x3)) 25 0 (nI (f + 1))) := by
  unfold fX0_add
  rw [h25, if_pos (r_lt (k := 300) (by rfl) hf (by decide))]
  simp only [gd_t (inb_nI hf (show 300 < 2 ^ 31 by decide)), nI_clamp (n := f) (show f < 2 ^ 31 by omega), nI_1]
theorem op_look (x1 x2 x3 : Int32) (h01 : x3 = 0 ∨ x3 = 1) : OPS (fX8_look x1 x2 x3) (fX9_look x1 x2 x3) := by
  rintro σ ⟨n, a, c, b, f, s, l, h⟩
  have h0 := h
  have hI : Inv σ := ⟨n, a, c, b, f, s, l, h⟩
  obtain ⟨-, -, ⟨⟨L1, L2, L3, L4, L5, L6⟩, ⟨⟨X1, X2⟩, X3, X4⟩, ⟨B1, B2, B3, B4, B5⟩, Z1, Z2⟩, ⟨F1, F2, F3, F4, F5⟩, -⟩ := h
  unfold fX8_look
  rw [hasBale_eq, B2]
  simp only [Option.bind_some]
  rw [ite_tv]
  have hiff := le_pred (x := x1) (y := nI b) rfl (show b < 2 ^ 31 by omega)
  by_cases q1 : 0 ≤ x1 ∧ x1 ≤ nI b - 1
  rotate_left
  · rw [if_neg q1]
    refine hO_pr rfl ?_
    unfold fX9_look
    rw [B3]
    by_cases r0 : gi σ 132 54 = 300
    · rw [if_pos r0]; exact ⟨_, rfl, rfl, hI⟩
    rw [if_neg r0]
    by_cases r1 : x1 < 0
    · rw [if_pos r1]; exact ⟨_, rfl, rfl, hI⟩
    · rw [if_neg r1, if_pos (Classical.byContradiction (fun q => q1 (hiff.mpr ⟨r1, q⟩)))]
      exact ⟨_, rfl, rfl, hI⟩
  have q1' := hiff.mp q1
  rw [if_pos q1, isDay_eq]
  simp only [Option.bind_some]
  rw [ite_tv]
  by_cases q2 : 0 ≤ x2 ∧ x2 ≤ 59
  rotate_left
  · rw [if_neg q2]
    refine hO_pr rfl ?_
    unfold fX9_look
    rw [B3]
    by_cases r0 : gi σ 132 54 = 300
    · rw [if_pos r0]; exact ⟨_, rfl, rfl, hI⟩
    rw [if_neg r0, if_neg q1'.1, if_neg q1'.2, mDay_eq]
    simp only [Option.bind_some]
    rw [ite_tv, if_neg q2]
    exact ⟨_, rfl, rfl, hI⟩
  rw [if_pos q2]
  unfold fX0_addLook
  by_cases q3 : 300 ≤ f
  · unfold fX0_add
    rw [F2, if_neg (r_nlt (k := 300) (by rfl) q3 (by omega))]
    refine hO_pr rfl ?_
    unfold fX9_look
    rw [F3, if_pos ((eq_full (x := 300) (N := 300) rfl F1 (by decide)).mpr q3)]
    exact ⟨_, rfl, rfl, hI⟩
  rw [add_eq x1 x2 x3 (by omega) F2]
  simp only [Option.bind_some]
  refine hO_pr rfl ?_
  obtain ⟨k, rfl, hk⟩ := (isN_lt (by omega)).mp q1
  obtain ⟨d, rfl, -, hd⟩ := (isN_of (l := 0) (h := 59) (lo := 0) (hi := 59) rfl rfl (by decide) (by decide)).mp q2
  generalize hσ1 : sI (sI (sI (sI σ 26 f (nI k)) 27 f (nI d)) 28 f (vp_nar .boolean x3)) 25 0 (nI (f + 1)) = σ1
  have s1 : ∀ k j, ¬ (25 ≤ k ∧ k ≤ 28) → gi σ1 k j = gi σ k j := fun k j a1 => by rw [← hσ1, gi_ne (by omega), gi_ne (by omega), gi_ne (by omega), gi_ne (by omega)]
  have s54 : gi σ1 132 54 = nI f := by rw [s1 _ _ (by decide)]; exact F3
  have s26 : ∀ j, gi σ1 26 j = if j = f then nI k else gi σ 26 j := fun j => by rw [← hσ1]; simp (disch := decide) only [gi_ne, gi_k]
  have s27 : ∀ j, gi σ1 27 j = if j = f then nI d else gi σ 27 j := fun j => by rw [← hσ1]; simp (disch := decide) only [gi_ne, gi_k]
  have s28 : ∀ j, gi σ1 28 j = if j = f then vp_nar .boolean x3 else gi σ 28 j := fun j => by rw [← hσ1]; simp (disch := decide) only [gi_ne, gi_k]
  have s25 : gi σ1 25 0 = nI (f + 1) := by rw [← hσ1, gi_eq]
  unfold fX9_look
  rw [s54, if_neg (fun q => q3 ((eq_full (x := 300) (N := 300) rfl F1 (by decide)).mp q)), if_neg q1'.1, s1 132 52 (by decide), B3, if_neg q1'.2, mDay_eq]
  simp only [Option.bind_some]
  rw [ite_tv, if_pos q2, fact_eq 1 (nI k) (nI d) (by omega) s54, fact_eq 2 (nI k) (nI d) (by omega) s54]
  simp only [Option.bind_some]
  have key : ∀ t : Int32, (t = 1 ∧ x3 = 0) ∨ (t = 2 ∧ x3 = 1) → hO (some (nI f, sI (sI (sI (sI σ1 169 f t) 170 f (nI k)) 171 f (nI d)) 132 54 (nI (f + 1)))) (fun q => nI f = q.1 ∧ Inv q.2) := by
    intro t ht
    refine ⟨_, rfl, rfl, n, a, c, b, f + 1, s, l, ?_⟩
    simp only
    generalize hτ : sI (sI (sI (sI σ1 169 f t) 170 f (nI k)) 171 f (nI d)) 132 54 (nI (f + 1)) = τ
    have t1 : ∀ k j, ¬ (169 ≤ k ∧ k ≤ 171) → k ≠ 132 → gi τ k j = gi σ1 k j := fun k j a1 a2 => by rw [← hτ, gi_ne a2, gi_ne (by omega), gi_ne (by omega), gi_ne (by omega)]
    have t132 : ∀ j, j ≠ 54 → gi τ 132 j = gi σ 132 j := fun j hj => by rw [← hτ, gi_nj hj, gi_ne (by decide), gi_ne (by decide), gi_ne (by decide), s1 _ _ (by decide)]
    have t54 : gi τ 132 54 = nI (f + 1) := by rw [← hτ, gi_eq]
    have t169 : ∀ j, gi τ 169 j = if j = f then t else gi σ 169 j := fun j => by rw [← hτ, gi_ne (by decide), gi_ne (by decide), gi_ne (by decide), gi_k, s1 _ _ (by decide)]
    have t170 : ∀ j, gi τ 170 j = if j = f then nI k else gi σ 170 j := fun j => by rw [← hτ, gi_ne (by decide), gi_ne (by decide), gi_k, gi_ne (by decide), s1 _ _ (by decide)]
    have t171 : ∀ j, gi τ 171 j = if j = f then nI d else gi σ 171 j := fun j => by rw [← hτ, gi_ne (by decide), gi_k, gi_ne (by decide), gi_ne (by decide), s1 _ _ (by decide)]
    have hsh : ∀ m, m ≤ f → shX τ m = shX σ m := fun m hm => shX_fr (fun j hj => by rw [t169, t170, t171, if_neg (by omega), if_neg (by omega), if_neg (by omega)]; exact ⟨rfl, rfl, rfl⟩)
    have ht0 : t ≠ 0 := by rcases ht with ⟨e, _⟩ | ⟨e, _⟩ <;> rw [e] <;> decide
    have hsh1 : shX τ (f + 1) = shX σ f := by
      funext i' d'
      show shS (gi τ 169) (gi τ 170) (gi τ 171) (f + 1) i' d' = _
      rw [shS_succ, t169, if_pos rfl, decide_eq_false ht0, Bool.false_and, Bool.or_false]
      exact congrFun (congrFun (hsh f (Nat.le_refl _)) i') d'
    refine IV_fact h0 ⟨by omega, by rw [t1 _ _ (by decide) (by decide)]; exact s25, t54, fun j hj => ?_, fun i hi d' hd' => ?_⟩ (by rw [← hτ, ← hσ1]; rfl) (by rw [← hτ, ← hσ1]; rfl) (fun k' j g1 g2 g3 => ?_)
    · by_cases hjf : j = f
      · subst hjf
        unfold FX
        rw [t1 27 _ (by decide) (by decide), t1 26 _ (by decide) (by decide), t1 28 _ (by decide) (by decide), t169, t170, t171, s26, s27, s28, if_pos rfl, if_pos rfl, if_pos rfl, if_pos rfl, if_pos rfl, if_pos rfl]
        refine ⟨rfl, ⟨d, rfl, by omega, hd⟩, ?_⟩
        rcases ht with ⟨e1, e2⟩ | ⟨e1, e2⟩
        · exact Or.inr (Or.inl ⟨e1, by rw [e2]; exact nar0, rfl, k, rfl, by omega, by omega⟩)
        · exact Or.inr (Or.inr ⟨e1, by rw [e2]; exact nar1, rfl, k, rfl, by omega, by omega⟩)
      · refine FX_fr (F4 j (by omega)) (fun k' a1 a2 => ?_) (fun k' a1 a2 => ?_)
        · rw [t1 _ _ (by omega) (by omega), ← hσ1, gi_ne (by omega)]
          simp only [gi_sI, if_neg hjf, ite_self]
        · have : k' = 169 ∨ k' = 170 ∨ k' = 171 := by omega
          rcases this with rfl | rfl | rfl
          · rw [t169, if_neg hjf]
          · rw [t170, if_neg hjf]
          · rw [t171, if_neg hjf]
    · rw [t1 _ _ (by omega) (by omega), s1 _ _ (by omega)]
      obtain ⟨⟨v, e1, e2, e3⟩, e4⟩ := F5 i hi d' hd'
      refine ⟨⟨v, e1, e2, by omega⟩, fun m hm => ?_⟩
      by_cases hmf : m ≤ f
      · rw [hsh m hmf]; exact e4 m hmf
      · have : m = f + 1 := by omega
        subst this
        rw [hsh1, ← e4 f (Nat.le_refl _), e1]
        constructor
        · rintro ⟨p, -⟩; exact ⟨p, nI_le e3 (by omega)⟩
        · rintro ⟨p, -⟩; exact ⟨p, nI_le (by omega) (by omega)⟩
    · by_cases hk : k' = 132
      · subst hk; exact t132 j (g2 rfl)
      · by_cases hk2 : 169 ≤ k' ∧ k' ≤ 171
        · have := g3 hk2.1 hk2.2
          have h3 : k' = 169 ∨ k' = 170 ∨ k' = 171 := by omega
          rcases h3 with rfl | rfl | rfl
          · rw [t169, if_neg this]
          · rw [t170, if_neg this]
          · rw [t171, if_neg this]
        · rw [t1 k' j hk2 hk, s1 k' j (by omega)]
  rcases h01 with e | e
  · rw [if_pos e]; exact key 1 (Or.inl ⟨rfl, e⟩)
  · rw [if_neg (by rw [e]; decide)]; exact key 2 (Or.inr ⟨rfl, e⟩)
theorem op_shut (x1 x2 : Int32) : OPS (fX8_shut x1 x2) (fX9_shut x1 x2) := by
  rintro σ ⟨n, a, c, b, f, s, l, h⟩
  have h0 := h
  have hI : Inv σ := ⟨n, a, c, b, f, s, l, h⟩
  obtain ⟨-, -, ⟨⟨L1, L2, L3, L4, L5, L6⟩, ⟨⟨X1, X2⟩, X3, X4⟩, ⟨B1, B2, B3, B4, B5⟩, Z1, Z2⟩, ⟨F1, F2, F3, F4, F5⟩, -⟩ := h
  rw [L3] at X1
  unfold fX8_shut
  rw [isWithin_eq, L3]
  simp only [Option.bind_some]
  rw [ite_tv]
  have hiff := (road_iff (x := x1) (a := a) (by omega)).trans (road_iff2 (x := x1) (a := a) (by omega)).symm
  by_cases q1 : 0 ≤ x1 ∧ x1 ≤ nI a - 2
  rotate_left
  · rw [if_neg q1]
    refine hO_pr rfl ?_
    unfold fX9_shut
    rw [X1]
    by_cases r0 : gi σ 132 54 = 300
    · rw [if_pos r0]; exact ⟨_, rfl, rfl, hI⟩
    rw [if_neg r0]
    by_cases r1 : x1 < 0
    · rw [if_pos r1]; exact ⟨_, rfl, rfl, hI⟩
    · rw [if_neg r1, if_pos (Classical.byContradiction (fun q => q1 (hiff.mpr ⟨r1, q⟩)))]
      exact ⟨_, rfl, rfl, hI⟩
  have q1' := hiff.mp q1
  rw [if_pos q1, isDay_eq]
  simp only [Option.bind_some]
  rw [ite_tv]
  by_cases q2 : 0 ≤ x2 ∧ x2 ≤ 59
  rotate_left
  · rw [if_neg q2]
    refine hO_pr rfl ?_
    unfold fX9_shut
    rw [X1]
    by_cases r0 : gi σ 132 54 = 300
    · rw [if_pos r0]; exact ⟨_, rfl, rfl, hI⟩
    rw [if_neg r0, if_neg q1'.1, if_neg q1'.2, mDay_eq]
    simp only [Option.bind_some]
    rw [ite_tv, if_neg q2]
    exact ⟨_, rfl, rfl, hI⟩
  rw [if_pos q2]
  unfold fX0_addShut
  by_cases q3 : 300 ≤ f
  · unfold fX0_add
    rw [F2, if_neg (r_nlt (k := 300) (by rfl) q3 (by omega))]
    simp only [Option.bind_some]
    rw [if_pos True.intro]
    simp only [Option.bind_some]
    refine hO_pr rfl ?_
    unfold fX9_shut
    rw [F3, if_pos ((eq_full (x := 300) (N := 300) rfl F1 (by decide)).mpr q3)]
    exact ⟨_, rfl, rfl, hI⟩
  obtain ⟨i, rfl, hi⟩ := (road_iff (by omega)).mp q1
  obtain ⟨d, rfl, -, hd⟩ := (isN_of (l := 0) (h := 59) (lo := 0) (hi := 59) rfl rfl (by decide) (by decide)).mp q2
  rw [add_eq (-1) (nI d) 0 (by omega) F2]
  simp only [Option.bind_some]
  rw [if_neg (nI_m1 (by omega)), nar0]
  generalize hσ1 : sI (sI (sI (sI σ 26 f (-1)) 27 f (nI d)) 28 f 0) 25 0 (nI (f + 1)) = σ1
  have s1 : ∀ k j, ¬ (25 ≤ k ∧ k ≤ 28) → gi σ1 k j = gi σ k j := fun k j a1 => by rw [← hσ1, gi_ne (by omega), gi_ne (by omega), gi_ne (by omega), gi_ne (by omega)]
  have s26 : ∀ j, gi σ1 26 j = if j = f then -1 else gi σ 26 j := fun j => by rw [← hσ1]; simp (disch := decide) only [gi_ne, gi_k]
  have s27 : ∀ j, gi σ1 27 j = if j = f then nI d else gi σ 27 j := fun j => by rw [← hσ1]; simp (disch := decide) only [gi_ne, gi_k]
  have s28 : ∀ j, gi σ1 28 j = if j = f then 0 else gi σ 28 j := fun j => by rw [← hσ1]; simp (disch := decide) only [gi_ne, gi_k]
  have s25 : gi σ1 25 0 = nI (f + 1) := by rw [← hσ1, gi_eq]
  have hbO : bkO σ1 = bkO σ := by rw [← hσ1]; rfl
  have hdO : drO σ1 = drO σ := by rw [← hσ1]; rfl
  have g8 : inb (nI i) 8 = true := inb_nI (by omega) (by decide)
  have g60 : inb (nI d) 60 = true := inb_nI (by omega) (by decide)
  simp only [gd_t g8, gd_t g60]
  rw [r29 (by omega), nI_clamp (show d < 2 ^ 31 by omega), s1 (30 + i) d (by omega), nI_1]
  -- the class's state: shutBy is written where nothing stood
  have fin : ∀ σ2 : PS, bkO σ2 = bkO σ → drO σ2 = drO σ → (∀ k j, ¬ (30 ≤ k ∧ k ≤ 37) → gi σ2 k j = gi σ1 k j) → (∀ i' d', i' < 8 → d' < 60 → gi σ2 (30 + i') d' = if i' = i ∧ d' = d ∧ gi σ (30 + i) d = 0 then nI (f + 1) else gi σ (30 + i') d') → hO (fX9_shut (nI i) (nI d) σ2) (fun q => nI f = q.1 ∧ Inv q.2) := by
    intro σ2 hb2 hd2 w1 w2
    have y54 : gi σ2 132 54 = nI f := by rw [w1 _ _ (by decide), s1 _ _ (by decide)]; exact F3
    unfold fX9_shut
    rw [y54, if_neg (fun q => q3 ((eq_full (x := 300) (N := 300) rfl F1 (by decide)).mp q)), if_neg q1'.1, w1 132 38 (by decide), s1 132 38 (by decide), X1, if_neg q1'.2, mDay_eq]
    simp only [Option.bind_some]
    rw [ite_tv, if_pos q2, fact_eq 0 (nI i) (nI d) (by omega) y54]
    simp only [Option.bind_some]
    refine ⟨_, rfl, rfl, n, a, c, b, f + 1, s, l, ?_⟩
    simp only
    generalize hτ : sI (sI (sI (sI σ2 169 f 0) 170 f (nI i)) 171 f (nI d)) 132 54 (nI (f + 1)) = τ
    have t0 : ∀ k j, ¬ (169 ≤ k ∧ k ≤ 171) → k ≠ 132 → gi τ k j = gi σ2 k j := fun k j a1 a2 => by rw [← hτ, gi_ne a2, gi_ne (by omega), gi_ne (by omega), gi_ne (by omega)]
    have t1 : ∀ k j, ¬ (169 ≤ k ∧ k ≤ 171) → k ≠ 132 → ¬ (30 ≤ k ∧ k ≤ 37) → gi τ k j = gi σ1 k j := fun k j a1 a2 a3 => by rw [t0 k j a1 a2, w1 k j a3]
    have t132 : ∀ j, j ≠ 54 → gi τ 132 j = gi σ 132 j := fun j hj => by rw [← hτ, gi_nj hj, gi_ne (by decide), gi_ne (by decide), gi_ne (by decide), w1 _ _ (by decide), s1 _ _ (by decide)]
    have t54 : gi τ 132 54 = nI (f + 1) := by rw [← hτ, gi_eq]
    have t169 : ∀ j, gi τ 169 j = if j = f then 0 else gi σ 169 j := fun j => by rw [← hτ, gi_ne (by decide), gi_ne (by decide), gi_ne (by decide), gi_k, w1 _ _ (by decide), s1 _ _ (by decide)]
    have t170 : ∀ j, gi τ 170 j = if j = f then nI i else gi σ 170 j := fun j => by rw [← hτ, gi_ne (by decide), gi_ne (by decide), gi_k, gi_ne (by decide), w1 _ _ (by decide), s1 _ _ (by decide)]
    have t171 : ∀ j, gi τ 171 j = if j = f then nI d else gi σ 171 j := fun j => by rw [← hτ, gi_ne (by decide), gi_k, gi_ne (by decide), gi_ne (by decide), w1 _ _ (by decide), s1 _ _ (by decide)]
    have hsh : ∀ m, m ≤ f → shX τ m = shX σ m := fun m hm => shX_fr (fun j hj => by rw [t169, t170, t171, if_neg (by omega), if_neg (by omega), if_neg (by omega)]; exact ⟨rfl, rfl, rfl⟩)
    have hsh1 : ∀ i' d', i' < 8 → d' < 60 → shX τ (f + 1) i' d' = (shX σ f i' d' || decide (i' = i ∧ d' = d)) := by
      intro i' d' hi' hd'
      show shS (gi τ 169) (gi τ 170) (gi τ 171) (f + 1) i' d' = _
      rw [shS_succ, t169, t170, t171, if_pos rfl, if_pos rfl, if_pos rfl]
      have e1 : shS (gi τ 169) (gi τ 170) (gi τ 171) f i' d' = shX σ f i' d' := congrFun (congrFun (hsh f (Nat.le_refl _)) i') d'
      rw [e1, decide_eq_true (show (0 : Int32) = 0 from rfl), Bool.true_and]
      congr 1
      rw [← Bool.decide_and]
      apply decide_eq_decide.mpr
      rw [nI_eq (by omega) (by omega), nI_eq (by omega) (by omega)]
      constructor
      · rintro ⟨p, q⟩; exact ⟨p.symm, q.symm⟩
      · rintro ⟨p, q⟩; exact ⟨p.symm, q.symm⟩
    refine IV_fact h0 ⟨by omega, by rw [t1 _ _ (by decide) (by decide) (by decide)]; exact s25, t54, fun j hj => ?_, fun i' hi' d' hd' => ?_⟩ (by rw [← hτ]; exact hb2) (by rw [← hτ]; exact hd2) (fun k' j g1 g2 g3 => ?_)
    · by_cases hjf : j = f
      · subst hjf
        unfold FX
        rw [t1 27 _ (by decide) (by decide) (by decide), t1 26 _ (by decide) (by decide) (by decide), t1 28 _ (by decide) (by decide) (by decide), t169, t170, t171, s26, s27, s28, if_pos rfl, if_pos rfl, if_pos rfl, if_pos rfl, if_pos rfl, if_pos rfl]
        exact ⟨rfl, ⟨d, rfl, by omega, hd⟩, Or.inl ⟨rfl, rfl, i, by omega, rfl⟩⟩
      · refine FX_fr (F4 j (by omega)) (fun k' a1 a2 => ?_) (fun k' a1 a2 => ?_)
        · rw [t1 _ _ (by omega) (by omega) (by omega), ← hσ1, gi_ne (by omega)]
          simp only [gi_sI, if_neg hjf, ite_self]
        · have : k' = 169 ∨ k' = 170 ∨ k' = 171 := by omega
          rcases this with rfl | rfl | rfl
          · rw [t169, if_neg hjf]
          · rw [t170, if_neg hjf]
          · rw [t171, if_neg hjf]
    · rw [t0 _ _ (by omega) (by omega), w2 i' d' hi' hd']
      obtain ⟨⟨v, e1, e2, e3⟩, e4⟩ := F5 i' hi' d' hd'
      by_cases hnew : i' = i ∧ d' = d ∧ gi σ (30 + i) d = 0
      · rw [if_pos hnew]
        refine ⟨⟨f + 1, rfl, by omega, by omega⟩, fun m hm => ?_⟩
        rw [hnew.1, hnew.2.1, hnew.2.2] at e4
        by_cases hmf : m ≤ f
        · rw [hsh m hmf, hnew.1, hnew.2.1, ← e4 m hmf]
          constructor
          · rintro ⟨-, p⟩
            exact absurd p (nI_ge (by omega) (by omega))
          · rintro ⟨p, -⟩
            exact absurd p (by decide)
        · have : m = f + 1 := by omega
          subst this
          rw [hsh1 i' d' hi' hd', decide_eq_true (show i' = i ∧ d' = d from ⟨hnew.1, hnew.2.1⟩), Bool.or_true]
          exact ⟨fun _ => rfl, fun _ => ⟨l_le (k := 1) rfl (by omega) (by omega), nI_le (Nat.le_refl _) (by omega)⟩⟩
      · rw [if_neg hnew]
        refine ⟨⟨v, e1, e2, by omega⟩, fun m hm => ?_⟩
        by_cases hmf : m ≤ f
        · rw [hsh m hmf]; exact e4 m hmf
        · have : m = f + 1 := by omega
          subst this
          rw [hsh1 i' d' hi' hd']
          have e5 := e4 f (Nat.le_refl _)
          have e6 : (1 ≤ gi σ (30 + i') d' ∧ gi σ (30 + i') d' ≤ nI (f + 1)) ↔ (1 ≤ gi σ (30 + i') d' ∧ gi σ (30 + i') d' ≤ nI f) := by
            rw [e1]
            constructor
            · rintro ⟨p, -⟩; exact ⟨p, nI_le e3 (by omega)⟩
            · rintro ⟨p, -⟩; exact ⟨p, nI_le (by omega) (by omega)⟩
          rw [e6, e5, Bool.or_eq_true, decide_eq_true_eq]
          constructor
          · exact fun p => Or.inl p
          · rintro (p | ⟨p, q⟩)
            · exact p
            · rw [← e5]
              have hv : ¬ gi σ (30 + i) d = 0 := fun hz => hnew ⟨p, q, hz⟩
              rw [← p, ← q, e1] at hv
              rw [e1]
              refine ⟨l_le (k := 1) rfl ?_ (by omega), nI_le e3 (by omega)⟩
              by_cases hv0 : v = 0
              · rw [hv0] at hv; exact absurd rfl hv
              · omega
    · by_cases hk : k' = 132
      · subst hk; exact t132 j (g2 rfl)
      · by_cases hk2 : 169 ≤ k' ∧ k' ≤ 171
        · have := g3 hk2.1 hk2.2
          have h3 : k' = 169 ∨ k' = 170 ∨ k' = 171 := by omega
          rcases h3 with rfl | rfl | rfl
          · rw [t169, if_neg this]
          · rw [t170, if_neg this]
          · rw [t171, if_neg this]
        · rw [t1 k' j hk2 hk (by omega), s1 k' j (by omega)]
  by_cases hz : gi σ (30 + i) d = 0
  · rw [if_pos hz]
    simp only [Option.bind_some]
    refine hO_pr rfl (fin _ hbO hdO (fun k j hk => gi_ne (by omega)) (fun i' d' hi' hd' => ?_))
    by_cases hii : i' = i
    · subst hii
      by_cases hdd : d' = d
      · subst hdd
        rw [gi_eq, if_pos ⟨rfl, rfl, hz⟩]
      · rw [gi_nj hdd, if_neg (fun q => hdd q.2.1), s1 _ _ (by omega)]
    · rw [gi_ne (by omega), if_neg (fun q => hii q.1), s1 _ _ (by omega)]
  · rw [if_neg hz]
    simp only [Option.bind_some]
    refine hO_pr rfl (fin _ hbO hdO (fun k j hk => rfl) (fun i' d' hi' hd' => ?_))
    rw [if_neg (fun q => hz q.2.2), s1 _ _ (by omega)]
