/-! letting out, by lists -/
theorem rel_app {r : Nat} (h1 : 1 ≤ r) (h5 : r ≤ 5) (X : List Nat) : ∀ {w : List Nat} {s : Nat}, okW s w → relE r (w ++ X) = (rlE (if r = 5 then 2 else 1) w).map enI ++ (if rlR (if r = 5 then 2 else 1) w = [] then relE r X else []) ∧ relR r (w ++ X) = if rlR (if r = 5 then 2 else 1) w = [] then relR r X else rlR (if r = 5 then 2 else 1) w ++ X := by
  intro w
  induction w with
  | nil => intro s _; exact ⟨rfl, rfl⟩
  | cons k w ih =>
    intro s h
    simp only [okW] at h
    rw [List.cons_append, relE, relR, rlE, rlR]
    by_cases hk : k = 25
    · rw [if_pos hk, if_pos hk]
      have : crk k < r := by rw [hk]; show 0 < r; omega
      rw [if_pos this, if_pos this, if_neg (by simp), if_neg (by simp)]
      exact ⟨rfl, rfl⟩
    · rw [if_neg hk] at h
      rw [if_neg hk, if_neg hk]
      obtain ⟨⟨k1, k2⟩, _, h3⟩ := h
      by_cases hr : crk k < r
      · have hr' : rkW k < if r = 5 then 2 else 1 := by
          have : k = 18 ∨ k = 19 ∨ k = 20 := by omega
          rcases this with rfl | rfl | rfl
          · have hr' : 4 < r := hr
            rw [if_pos (show r = 5 by omega)]; decide
          · have hr' : 4 < r := hr
            rw [if_pos (show r = 5 by omega)]; decide
          · have hr' : 5 < r := hr
            omega
        rw [if_pos hr, if_pos hr, if_pos hr', if_pos hr', if_neg (by simp), if_neg (by simp)]
        exact ⟨rfl, rfl⟩
      · have hr' : ¬ rkW k < if r = 5 then 2 else 1 := by
          have : k = 18 ∨ k = 19 ∨ k = 20 := by omega
          rcases this with rfl | rfl | rfl
          · have hr' : ¬ 4 < r := hr
            rw [if_neg (show ¬ r = 5 by omega)]; decide
          · have hr' : ¬ 4 < r := hr
            rw [if_neg (show ¬ r = 5 by omega)]; decide
          · show ¬ 2 < _
            split <;> omega
        rw [if_neg hr, if_neg hr, if_neg hr', if_neg hr']
        obtain ⟨i1, i2⟩ := ih h3
        rw [i1, i2, List.map_cons, List.cons_append]
        refine ⟨?_, rfl⟩
        have : enI (k - 16, 0) = -(nI k) := by
          unfold enI
          simp only
          rw [if_neg (by omega), if_neg (by omega), show 16 + (k - 16) = k by omega]
        rw [this]
theorem bw_cases {re : List RE} {cn : Bool} : bwS re cn = [] ∨ bwS re cn = [7] ∨ bwS re cn = [8] ∨ bwS re cn = [8, 7] := by
  unfold bwS
  split
  · exact Or.inl rfl
  · split
    · exact Or.inr (Or.inl rfl)
    · split
      · exact Or.inr (Or.inr (Or.inr rfl))
      · exact Or.inr (Or.inr (Or.inl rfl))
theorem bw_low {re : List RE} {cn : Bool} {r : Nat} (hr : 3 ≤ r) : relE r (bwS re cn) = [] ∧ relR r (bwS re cn) = bwS re cn := by
  have h7 : crk 7 < r := by show 1 < r; omega
  have h8 : crk 8 < r := by show 2 < r; omega
  rcases bw_cases (re := re) (cn := cn) with e | e | e | e
  · rw [e]; exact ⟨rfl, rfl⟩
  · rw [e]; simp only [relE, relR]; rw [if_pos h7, if_pos h7]; exact ⟨rfl, rfl⟩
  · rw [e]; simp only [relE, relR]; rw [if_pos h8, if_pos h8]; exact ⟨rfl, rfl⟩
  · rw [e]; simp only [relE, relR]; rw [if_pos h8, if_pos h8]; exact ⟨rfl, rfl⟩
theorem bw_1 {re : List RE} {cn : Bool} : relR 1 (bwS re cn) = [] := by
  rcases bw_cases (re := re) (cn := cn) with e | e | e | e <;> rw [e] <;> rfl
theorem crk_op {op : Nat} (h : op ≤ 3) : crk (21 + op) = 3 := by
  have : op = 0 ∨ op = 1 ∨ op = 2 ∨ op = 3 := by omega
  rcases this with rfl | rfl | rfl | rfl <;> rfl
/-- what is written of a relation, and of all -/
theorem rel_all {re : List RE} {cn : Bool} {op : Nat} {le ri : List IT} (hop : op ≤ 3) (hc : re = [] → cn = true) : preC re cn ++ (le.map enI ++ (ri.map enI ++ relE 1 ((21 + op) :: bwS re cn))) = ccS 0 (re ++ [(cn, op, le, ri)]) := by
  have e3 : relE 1 ((21 + op) :: bwS re cn) = -(nI (21 + op)) :: relE 1 (bwS re cn) := by
    simp only [relE]
    rw [if_neg (by rw [crk_op hop]; decide)]
  rw [e3, ccS_P, ccP_snoc, enS_snoc]
  unfold preC bwS
  have en : enR (cn, op, le, ri) = le.map enI ++ (ri.map enI ++ [-(nI (21 + op))]) := rfl
  by_cases hre : re = []
  · have h0 := enS_nil.mpr hre
    rw [if_pos h0, if_pos h0, if_pos hre, h0, if_neg (by simp), if_neg (by decide), en]
    simp [relE]
  · have h0 : ¬ enS 0 re = 0 := fun z => hre (enS_nil.mp z)
    rw [if_neg h0, if_neg h0, if_neg hre, en]
    have e7 : relE 1 [7] = [-7] := rfl
    have e8 : relE 1 [8] = [-8] := rfl
    have e9 : relE 1 [8, 7] = [-8, -7] := rfl
    cases cn <;> by_cases h2 : enS 0 re = 2 <;> simp [h2, e7, e8, e9]
theorem rel_or {re : List RE} {cn : Bool} {op : Nat} {le ri : List IT} (hop : op ≤ 3) (hc : re = [] → cn = true) : preC re cn ++ (le.map enI ++ (ri.map enI ++ relE 1 ((21 + op) :: bwS re cn))) = preC (re ++ [(cn, op, le, ri)]) true ∧ bwS (re ++ [(cn, op, le, ri)]) true = [7] := by
  refine ⟨?_, ?_⟩
  · rw [rel_all hop hc, ccS_P]
    unfold preC
    simp only [true_and]
  · unfold bwS
    rw [if_neg (by simp), if_pos rfl]
theorem rel_and {re : List RE} {cn : Bool} {op : Nat} {le ri : List IT} (hop : op ≤ 3) (hc : re = [] → cn = true) : preC re cn ++ (le.map enI ++ (ri.map enI ++ relE 2 ((21 + op) :: bwS re cn))) = preC (re ++ [(cn, op, le, ri)]) false ∧ bwS (re ++ [(cn, op, le, ri)]) false = 8 :: relR 2 ((21 + op) :: bwS re cn) := by
  have e3 : relE 2 ((21 + op) :: bwS re cn) = -(nI (21 + op)) :: relE 2 (bwS re cn) := by
    simp only [relE]
    rw [if_neg (by rw [crk_op hop]; decide)]
  have e4 : relR 2 ((21 + op) :: bwS re cn) = relR 2 (bwS re cn) := by
    simp only [relR]
    rw [if_neg (by rw [crk_op hop]; decide)]
  rw [e3, e4]
  have en : enR (cn, op, le, ri) = le.map enI ++ (ri.map enI ++ [-(nI (21 + op))]) := rfl
  unfold preC bwS
  rw [ccP_snoc, enS_snoc, if_neg (show ¬ (re ++ [(cn, op, le, ri)]) = [] by simp), if_neg (show ¬ (false = true ∧ _) by simp), if_neg (show ¬ (false = true) by simp), List.append_nil]
  by_cases hre : re = []
  · have h0 := enS_nil.mpr hre
    rw [if_pos h0, if_pos h0, if_pos hre, h0, if_neg (by simp), if_neg (by decide), en]
    simp [relE, relR]
  · have h0 : ¬ enS 0 re = 0 := fun z => hre (enS_nil.mp z)
    rw [if_neg h0, if_neg h0, if_neg hre, en]
    have e7 : relE 2 [7] = [] := rfl
    have e8 : relE 2 [8] = [-8] := rfl
    have e9 : relE 2 [8, 7] = [-8] := rfl
    have f7 : relR 2 [7] = [7] := rfl
    have f8 : relR 2 [8] = [] := rfl
    have f9 : relR 2 [8, 7] = [7] := rfl
    cases cn <;> by_cases h2 : enS 0 re = 2 <;> simp [h2, e7, e8, e9, f7, f8, f9]
/-! the book's steps -/
theorem CK.lord {b t aw pt o c so : Nat} {wr lo x : Int32} {W : List Nat} {rs : List RU} {C : List Int32} {σ : PS} (hb : b = 116 ∨ b = 124) (h : CK b t aw pt o wr W rs c C so lo x σ) (hr : rs.length < 20) (y : Int32) : ∃ τ, fX5_setLord b y σ = some τ ∧ CK b t aw pt o wr W rs c C so y x τ ∧ frS b σ τ := by
  obtain ⟨a1, a2, a3, a4, a5, a6, a7, a8, a9, b1, b2, b3, b4⟩ := h
  have e : fX5_setLord b y σ = some (sI σ (b + 2) rs.length y) := by
    unfold fX5_setLord
    rw [a8, if_neg (l_nle (k := 20) (by rfl) hr (by decide)), gd_t (inb_nI hr (by decide)), nI_clamp (by omega)]
  refine ⟨_, e, ?_, frS.rf.i hb (by omega)⟩
  have g : ∀ k j, k ≠ b + 2 → gi (sI σ (b + 2) rs.length y) k j = gi σ k j := fun k j q => gi_ne q
  refine ⟨by rw [g _ _ (by omega)]; exact a1, fun z => by rw [g _ _ (by omega)]; exact a2 z, by rw [g _ _ (by omega)]; exact a3, by rw [g _ _ (by omega)]; exact a4, by rw [g _ _ (by omega)]; exact a5, by rw [g _ _ (by omega)]; exact a6, ⟨by rw [g _ _ (by omega)]; exact a7.1, stk_congr (fun j _ => g _ _ (by omega)) a7.2⟩, by rw [g _ _ (by omega)]; exact a8, bkP_fr (fun j q => g _ _ (by omega)) (Nat.le_refl _) (fun i i1 i2 j hj => ?_) a9, by rw [g _ _ (by omega)]; exact b1, b2, sgL_congr (fun j _ q => g _ _ (by omega)) b3, fun z => ?_⟩
  · by_cases hi : i = 2
    · subst hi; exact gi_nj (by omega)
    · exact g _ _ (by omega)
  · rw [g _ _ (by omega), gi_eq, g _ _ (by omega), g _ _ (by omega)]
    have := b4 z
    exact ⟨this.1, rfl, this.2.2⟩
theorem CK.cond {b t aw pt o c so : Nat} {wr lo x : Int32} {W : List Nat} {rs : List RU} {C : List Int32} {σ : PS} (hb : b = 116 ∨ b = 124) (h : CK b t aw pt o wr W rs c C so lo x σ) (hr : rs.length < 20) (ha : aw ≠ 0) : ∃ τ, fX4_takeIf b σ = some τ ∧ CK b t 3 1 o wr W rs c C so lo (nI (c + C.length)) τ ∧ frS b σ τ := by
  have h0 := h
  obtain ⟨a1, a2, a3, a4, a5, a6, a7, a8, a9, b1, b2, b3, b4⟩ := h
  have e : fX5_beginCondition b σ = some (sI σ (b + 4) rs.length (nI (c + C.length))) := by
    unfold fX5_beginCondition
    rw [a8, if_neg (l_nle (k := 20) (by rfl) hr (by decide)), gd_t (inb_nI hr (by decide)), nI_clamp (by omega), b1]
  have e2 : fX4_takeIf b σ = some (sI (sI (sI σ (b + 4) rs.length (nI (c + C.length))) 38 4 1) 38 3 3) := by
    unfold fX4_takeIf
    rw [e]
    rfl
  refine ⟨_, e2, ?_, ((frS.rf.i hb (by omega)).i hb (by omega)).i hb (by omega)⟩
  have g : ∀ k j, k ≠ b + 4 → gi (sI σ (b + 4) rs.length (nI (c + C.length))) k j = gi σ k j := fun k j q => gi_ne q
  have h1 : CK b t aw pt o wr W rs c C so lo (nI (c + C.length)) (sI σ (b + 4) rs.length (nI (c + C.length))) := by
    refine ⟨by rw [g _ _ (by omega)]; exact a1, fun z => by rw [g _ _ (by omega)]; exact a2 z, by rw [g _ _ (by omega)]; exact a3, by rw [g _ _ (by omega)]; exact a4, by rw [g _ _ (by omega)]; exact a5, by rw [g _ _ (by omega)]; exact a6, ⟨by rw [g _ _ (by omega)]; exact a7.1, stk_congr (fun j _ => g _ _ (by omega)) a7.2⟩, by rw [g _ _ (by omega)]; exact a8, bkP_fr (fun j q => g _ _ (by omega)) (Nat.le_refl _) (fun i i1 i2 j hj => ?_) a9, by rw [g _ _ (by omega)]; exact b1, b2, sgL_congr (fun j _ q => g _ _ (by omega)) b3, fun z => ?_⟩
    · by_cases hi : i = 4
      · subst hi; exact gi_nj (by omega)
      · exact g _ _ (by omega)
    · rw [g _ _ (by omega), gi_eq, g _ _ (by omega), g _ _ (by omega)]
      have := b4 z
      exact ⟨this.1, this.2.1, this.2.2.1, rfl⟩
  exact (h1.s4 hb 1).s3 hb ha 3
theorem CK.begin {b t pt o c so : Nat} {wr lo x : Int32} {W : List Nat} {rs : List RU} {C : List Int32} {σ : PS} (hb : b = 116 ∨ b = 124) (h : CK b t 0 pt o wr W rs c C so lo x σ) (hr : rs.length < 20) (hC : C = []) (k : Nat) (hk : 3 ≤ k) (aw : Nat) : ∃ τ, fX5_beginRule b (nI k) σ = some τ ∧ CK b t aw 0 o wr W rs c C (k - 3) 0 (-1) (sI (sI τ 38 4 0) 38 3 (nI aw)) ∧ frS b σ τ := by
  obtain ⟨a1, a2, a3, a4, a5, a6, a7, a8, a9, b1, b2, b3, b4⟩ := h
  have e : fX5_beginRule b (nI k) σ = some (sI (sI (sI (sI σ (b + 1) rs.length (nI k)) (b + 2) rs.length 0) (b + 3) rs.length (nI c)) (b + 4) rs.length (-1)) := by
    unfold fX5_beginRule
    simp (disch := omega) only [gi_ne]
    rw [b1, hC, show ([] : List Int32).length = 0 from rfl, Nat.add_zero c, a8, if_neg (l_nle (k := 20) (by rfl) hr (by decide)), nI_clamp (by omega), gd_t (inb_nI hr (by decide)), gd_t (inb_nI hr (by decide)), gd_t (inb_nI hr (by decide)), gd_t (inb_nI hr (by decide))]
  refine ⟨_, e, ?_, (((frS.rf.i hb (by omega)).i hb (by omega)).i hb (by omega)).i hb (by omega)⟩
  generalize hτ : (sI (sI (sI (sI (sI (sI σ (b + 1) rs.length (nI k)) (b + 2) rs.length 0) (b + 3) rs.length (nI c)) (b + 4) rs.length (-1)) 38 4 0) 38 3 (nI aw)) = τ
  have g : ∀ a j, a ≠ 38 → (a < b + 1 ∨ b + 4 < a) → gi τ a j = gi σ a j := by
    intro a j q1 q2
    rw [← hτ]
    simp (disch := omega) only [gi_ne]
  have g38 : ∀ j, j ≠ 3 → j ≠ 4 → gi τ 38 j = gi σ 38 j := by
    intro j q1 q2
    rw [← hτ, gi_nj q1, gi_nj q2]
    simp (disch := omega) only [gi_ne]
  have gb : ∀ i, 1 ≤ i → i ≤ 4 → ∀ j, j ≠ rs.length → gi τ (b + i) j = gi σ (b + i) j := by
    intro i i1 i2 j q
    rw [← hτ]
    have : i = 1 ∨ i = 2 ∨ i = 3 ∨ i = 4 := by omega
    rcases this with rfl | rfl | rfl | rfl
    · simp (disch := omega) only [gi_ne, gi_nj]
    · simp (disch := omega) only [gi_ne, gi_nj]
    · simp (disch := omega) only [gi_ne, gi_nj]
    · simp (disch := omega) only [gi_ne, gi_nj]
  refine ⟨by rw [← hτ, gi_eq], fun _ => by rw [← hτ, gi_nj (by decide), gi_eq]; rfl, by rw [g38 _ (by decide) (by decide)]; exact a3, by rw [g38 _ (by decide) (by decide)]; exact a4, by rw [g38 _ (by decide) (by decide)]; exact a5, by rw [g38 _ (by decide) (by decide)]; exact a6, ⟨by rw [g38 _ (by decide) (by decide)]; exact a7.1, stk_congr (fun j _ => g _ _ (by omega) (by omega)) a7.2⟩, by rw [g _ _ (by omega) (by omega)]; exact a8, bkP_fr (fun j q => g _ _ (by omega) (by omega)) (Nat.le_refl _) (fun i i1 i2 j hj => ?_) a9, by rw [g _ _ (by omega) (by omega)]; exact b1, b2, sgL_congr (fun j _ q => g _ _ (by omega) (by omega)) b3, fun z => ?_⟩
  · by_cases hi : i = 5
    · subst hi; exact g _ _ (by omega) (by omega)
    · exact gb i i1 (by omega) j (by omega)
  · rw [← hτ]
    simp (disch := omega) only [gi_ne, gi_eq]
    exact ⟨by rw [show 3 + (k - 3) = k by omega], trivial, trivial, trivial⟩
theorem CK.fin {b t pt o c so : Nat} {wr lo x : Int32} {rs : List RU} {C : List Int32} {σ : PS} (hb : b = 116 ∨ b = 124) (h : CK b t 4 pt o wr [] rs c C so lo x σ) (hr : rs.length < 20) {r : RU} (h1 : r.1 = so) (h2 : r.2.1 = lo) (hC : C = r.2.2.1.map enI ++ ccS 0 r.2.2.2) (hx : (x = -1 ∧ r.2.2.2 = []) ∨ x = nI (c + r.2.2.1.length)) (ht : t ≤ 400) (pt' so' : Nat) (lo' x' : Int32) : ∃ τ, fX5_endRule b σ = some τ ∧ CK b t 0 pt' o wr [] (rs ++ [r]) (c + C.length) [] so' lo' x' (sI τ 38 3 0) ∧ frS b σ τ := by
  obtain ⟨a1, a2, a3, a4, a5, a6, a7, a8, a9, b1, b2, b3, b4⟩ := h
  obtain ⟨d1, d2, d3, d4⟩ := b4 (by decide)
  have e35 : ∀ υ, gi υ b 7 = nI rs.length → gi υ b 8 = nI (c + C.length) → fX5_endRule_35 b υ = some (sI (sI υ (b + 5) rs.length (nI (c + C.length))) b 7 (nI (rs.length + 1))) := by
    intro υ u1 u2
    unfold fX5_endRule_35
    rw [u1, gd_t (inb_nI hr (by decide)), nI_clamp (by omega), u2, gi_ne (by omega), u1, nI_1]
  have hl : C.length = r.2.2.1.length + (ccS 0 r.2.2.2).length := by rw [hC, List.length_append, List.length_map]
  have key : ∀ υ, (∀ k j, (k = b + 4 → j ≠ rs.length) → gi υ k j = gi σ k j) → gi υ (b + 4) rs.length = nI (c + r.2.2.1.length) → CK b t 0 pt' o wr [] (rs ++ [r]) (c + C.length) [] so' lo' x' (sI (sI (sI υ (b + 5) rs.length (nI (c + C.length))) b 7 (nI (rs.length + 1))) 38 3 0) := by
    intro υ u1 u2
    generalize hτ : (sI (sI (sI υ (b + 5) rs.length (nI (c + C.length))) b 7 (nI (rs.length + 1))) 38 3 0) = τ
    have g38 : ∀ j, j ≠ 3 → gi τ 38 j = gi σ 38 j := by
      intro j q
      rw [← hτ, gi_nj q, gi_ne (by omega), gi_ne (by omega), u1 _ _ (by omega)]
    have g : ∀ a j, a ≠ 38 → a ≠ b → a ≠ b + 4 → a ≠ b + 5 → gi τ a j = gi σ a j := by
      intro a j q1 q2 q3 q4
      rw [← hτ, gi_ne q1, gi_ne q2, gi_ne q4, u1 _ _ (by omega)]
    have gj : ∀ i, 1 ≤ i → i ≤ 5 → ∀ j, j < rs.length → gi τ (b + i) j = gi σ (b + i) j := by
      intro i i1 i2 j q
      rw [← hτ, gi_ne (by omega), gi_ne (by omega)]
      by_cases z : i = 5
      · subst z; rw [gi_nj (by omega), u1 _ _ (by omega)]
      · rw [gi_ne (by omega), u1 _ _ (by omega)]
    refine ⟨by rw [← hτ, gi_eq]; rfl, fun z => absurd rfl z, by rw [g38 _ (by decide)]; exact a3, by rw [g38 _ (by decide)]; exact a4, by rw [g38 _ (by decide)]; exact a5, by rw [g38 _ (by decide)]; exact a6, ⟨by rw [g38 _ (by decide)]; exact a7.1, trivial⟩, ?_, ?_, ?_, ?_, trivial, fun z => absurd rfl z⟩
    · rw [← hτ, gi_ne (by omega), gi_eq, List.length_append]; rfl
    · refine bkP_snoc (bkP_fr (σ := σ) (fun j q => g _ _ (by omega) (by omega) (by omega) (by omega)) (by omega) (fun i i1 i2 j hj => gj i i1 i2 j (by omega)) a9) ?_
      rw [Nat.zero_add]
      rw [hC] at b3
      obtain ⟨s1, s2⟩ := sgL_app.mp b3
      rw [List.length_map] at s2
      refine ⟨?_, ?_, c, ?_, ?_, ?_, by omega, sgL_congr (fun j _ _ => g _ _ (by omega) (by omega) (by omega) (by omega)) s1, sgL_congr (fun j _ _ => g _ _ (by omega) (by omega) (by omega) (by omega)) s2⟩
      · rw [g _ _ (by omega) (by omega) (by omega) (by omega), h1]; exact d1
      · rw [g _ _ (by omega) (by omega) (by omega) (by omega), h2]; exact d2
      · rw [g _ _ (by omega) (by omega) (by omega) (by omega)]; exact d3
      · rw [← hτ, gi_ne (by omega), gi_ne (by omega), gi_ne (by omega)]; exact u2
      · rw [← hτ, gi_ne (by omega), gi_ne (by omega), gi_eq, hl, Nat.add_assoc]
    · rw [← hτ, gi_ne (by omega), gi_nj (by decide), gi_ne (by omega), u1 _ _ (by omega)]; exact b1
    · simp only [List.length_nil] at b2 ⊢; omega
  unfold fX5_endRule
  rw [a8, if_neg (l_nle (k := 20) (by rfl) hr (by decide)), gd_t (inb_nI hr (by decide)), gd_t (inb_nI hr (by decide)), nI_clamp (by omega), d4]
  rcases hx with ⟨hx1, hx2⟩ | hx
  · rw [if_pos hx1, b1, e35 _ (by rw [gi_ne (by omega)]; exact a8) (by rw [gi_ne (by omega)]; exact b1)]
    refine ⟨_, rfl, key _ (fun k j q => ?_) ?_, ((frS.rf.i hb (by omega)).i hb (by omega)).i hb (by omega)⟩
    · by_cases z : k = b + 4
      · subst z; exact gi_nj (q rfl)
      · exact gi_ne z
    · rw [gi_eq, hl, hx2]; rfl
  · rw [if_neg (by rw [hx]; exact nI_m1 (by omega)), e35 _ a8 b1]
    exact ⟨_, rfl, key _ (fun k j q => rfl) (by rw [d4, hx]), (frS.rf.i hb (by omega)).i hb (by omega)⟩
theorem CK.bar {b t aw pt o c so : Nat} {wr lo x : Int32} {W : List Nat} {rs : List RU} {C : List Int32} {σ : PS} (h : CK b t aw pt o wr W rs c C so lo x σ) (ha : aw ≠ 0) (hr : rs.length < 20) (hs : so ≤ 2) : fX5_isInBar b σ = some (if so = 2 then 1 else 0, σ) := by
  obtain ⟨a1, a2, a3, a4, a5, a6, a7, a8, a9, b1, b2, b3, b4⟩ := h
  unfold fX5_isInBar
  rw [a8, if_neg (l_nle (k := 20) (by rfl) hr (by decide)), gd_t (inb_nI hr (by decide)), nI_clamp (by omega), (b4 ha).1]
  have : so = 0 ∨ so = 1 ∨ so = 2 := by omega
  rcases this with rfl | rfl | rfl <;> rfl
