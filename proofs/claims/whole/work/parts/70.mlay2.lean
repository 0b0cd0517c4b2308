/-! the reference's search of the best way -/
def ahS (R : Nat) (A B : List Nat) : Bool := decide (fl R A < fl R B ∨ (fl R A = fl R B ∧ vb R A < vb R B))
theorem ah91_ok {R : Nat} {A B : List Nat} {σ : PS} (hl : A.length ≤ 6) (hAB : B.length = A.length) (hA : ∀ j, j < A.length → gi σ 190 j = nI (A.getD j 0)) (hB : ∀ j, j < A.length → gi σ 191 j = nI (B.getD j 0)) (dA : ∀ a ∈ A, a ≤ R) (dB : ∀ a ∈ B, a ≤ R) (hR : R ≤ 3) : ∀ (Aq Bq Ap Bp : List Nat) (m : Nat), A = Ap ++ Aq → B = Bp ++ Bq → Bp.length = Ap.length → fX9_isAhead_91 (m + Aq.length + 1) (nI A.length) (nI Ap.length) σ = some (tb (decide (vb R Aq < vb R Bq)), σ) := by
  intro Aq
  induction Aq with
  | nil =>
    intro Bq Ap Bp m hAe hBe hp
    rw [List.append_nil] at hAe
    subst hAe
    have : Bq = [] := by
      have h1 : B.length = Bp.length + Bq.length := by rw [hBe, List.length_append]
      exact List.length_eq_zero_iff.mp (by omega)
    subst this
    rw [fX9_isAhead_91, if_pos (nI_le (Nat.le_refl _) (by omega))]
    rfl
  | cons a Aq ih =>
    intro Bq Ap Bp m hAe hBe hp
    have hlen : A.length = Ap.length + (Aq.length + 1) := by rw [hAe]; simp
    have h1 : B.length = Bp.length + Bq.length := by rw [hBe, List.length_append]
    match Bq, hBe, h1 with
    | [], hBe, h1 => simp only [List.length_nil] at h1; omega
    | b :: Bq, hBe, h1 =>
      simp only [List.length_cons] at h1
      have hk : Ap.length < A.length := by omega
      have ga : A.getD Ap.length 0 = a := by rw [hAe, gD_a2 (Nat.le_refl _)]; simp
      have gb : B.getD Ap.length 0 = b := by rw [← hp, hBe, gD_a2 (Nat.le_refl _)]; simp
      have haR := dA a (by rw [hAe]; simp)
      have hbR := dB b (by rw [hBe]; simp)
      have dAq : ∀ x ∈ Aq, x ≤ R := fun x hx => dA x (by rw [hAe]; simp [hx])
      have dBq : ∀ x ∈ Bq, x ≤ R := fun x hx => dB x (by rw [hBe]; simp [hx])
      have hlq : Aq.length = Bq.length := by omega
      rw [List.length_cons, show m + (Aq.length + 1) + 1 = (m + Aq.length + 1) + 1 by omega, fX9_isAhead_91, if_neg (nI_ge hk (by omega))]
      simp only [gd_t (inb_nI (show Ap.length < 6 by omega) (show 6 < 2 ^ 31 by decide))]
      rw [nI_clamp (show Ap.length < 2 ^ 31 by omega), hA _ hk, hB _ hk, ga, gb]
      by_cases hq : a = b
      · subst hq
        rw [if_pos rfl, nI_1, show nI (Ap.length + 1) = nI (Ap ++ [a]).length by simp, ih Bq (Ap ++ [a]) (Bp ++ [a]) m (by rw [hAe]; simp) (by rw [hBe]; simp) (by simp [hp])]
        have : (vb R (a :: Aq) < vb R (a :: Bq)) ↔ vb R Aq < vb R Bq := by
          simp only [vb]
          rw [hlq]
          omega
        rw [show decide (vb R (a :: Aq) < vb R (a :: Bq)) = decide (vb R Aq < vb R Bq) from decide_eq_decide.mpr this]
      · rw [if_neg (fun q => hq (nIeq_lit q (by omega) (by omega)))]
        by_cases h2 : b < a
        · rw [if_pos (nI_le (by omega) (by omega)), decide_eq_false (by have := vb_head (b := a) hlq.symm dBq h2; omega)]
          rfl
        · rw [if_neg (nI_ge (by omega) (by omega)), decide_eq_true (vb_head hlq dAq (by omega))]
          rfl
theorem ah14_ok {R i : Nat} {A B : List Nat} {σ : PS} (hi : i < 8) (h159 : gi σ 159 i = nI R) (hl : A.length ≤ 6) (hAB : B.length = A.length) (hA : ∀ j, j < A.length → gi σ 190 j = nI (A.getD j 0)) (hB : ∀ j, j < A.length → gi σ 191 j = nI (B.getD j 0)) (dA : ∀ a ∈ A, a ≤ R) (dB : ∀ a ∈ B, a ≤ R) (hR : R ≤ 3) : ∀ (Aq Bq Ap Bp : List Nat) (m : Nat), A = Ap ++ Aq → B = Bp ++ Bq → Bp.length = Ap.length → fX9_isAhead_14 (m + Aq.length + 1) (nI i) (nI A.length) (nI Ap.length) σ = some (tb (decide (fl R Aq < fl R Bq ∨ (fl R Aq = fl R Bq ∧ vb R A < vb R B))), σ) := by
  intro Aq
  induction Aq with
  | nil =>
    intro Bq Ap Bp m hAe hBe hp
    rw [List.append_nil] at hAe
    subst hAe
    have : Bq = [] := by
      have h1 : B.length = Bp.length + Bq.length := by rw [hBe, List.length_append]
      exact List.length_eq_zero_iff.mp (by omega)
    subst this
    rw [fX9_isAhead_14, if_pos (nI_le (Nat.le_refl _) (by omega))]
    obtain ⟨m2, hm2⟩ := FU_k (A.length + 1) (by omega)
    rw [hm2]
    have := ah91_ok hl hAB hA hB dA dB hR A B [] [] m2 rfl rfl rfl
    refine this.trans ?_
    rw [show decide (fl R [] < fl R [] ∨ (fl R [] = fl R [] ∧ vb R A < vb R B)) = decide (vb R A < vb R B) from decide_eq_decide.mpr (by simp [fl])]
  | cons a Aq ih =>
    intro Bq Ap Bp m hAe hBe hp
    have hlen : A.length = Ap.length + (Aq.length + 1) := by rw [hAe]; simp
    have h1 : B.length = Bp.length + Bq.length := by rw [hBe, List.length_append]
    match Bq, hBe, h1 with
    | [], hBe, h1 => simp only [List.length_nil] at h1; omega
    | b :: Bq, hBe, h1 =>
      simp only [List.length_cons] at h1
      have hk : Ap.length < A.length := by omega
      have ga : A.getD Ap.length 0 = a := by rw [hAe, gD_a2 (Nat.le_refl _)]; simp
      have gb : B.getD Ap.length 0 = b := by rw [← hp, hBe, gD_a2 (Nat.le_refl _)]; simp
      have haR := dA a (by rw [hAe]; simp)
      have hbR := dB b (by rw [hBe]; simp)
      have hlq : Aq.length = Bq.length := by omega
      have fa := fl_lt R Aq
      have fb := fl_lt R Bq
      rw [hlq] at fa
      rw [List.length_cons, show m + (Aq.length + 1) + 1 = (m + Aq.length + 1) + 1 by omega, fX9_isAhead_14, if_neg (nI_ge hk (by omega))]
      unfold fX9_isAhead_39 fX9_isAhead_59
      simp only [gd_t (inb_nI (show Ap.length < 6 by omega) (show 6 < 2 ^ 31 by decide)), gd_t (inb_nI hi (show 8 < 2 ^ 31 by decide))]
      rw [nI_clamp (show Ap.length < 2 ^ 31 by omega), nI_clamp (show i < 2 ^ 31 by omega), hA _ hk, hB _ hk, ga, gb, h159, nI_1, show nI (Ap.length + 1) = nI (Ap ++ [a]).length by simp, ih Bq (Ap ++ [a]) (Bp ++ [b]) m (by rw [hAe]; simp) (by rw [hBe]; simp) (by simp [hp])]
      have iff : ∀ x y : Nat, (nI x = nI y ↔ x = y) ∨ ¬ (x ≤ 3 ∧ y ≤ 3) := fun x y => by
        by_cases h : x ≤ 3 ∧ y ≤ 3
        · exact Or.inl (nI_eq (by omega) (by omega))
        · exact Or.inr h
      have ia : nI a = nI R ↔ a = R := nI_eq (by omega) (by omega)
      have ib : nI b = nI R ↔ b = R := nI_eq (by omega) (by omega)
      by_cases qa : a = R
      · by_cases qb : b = R
        · rw [if_pos (ia.mpr qa), if_pos (ib.mpr qb), if_pos True.intro]
          rw [show decide (fl R (a :: Aq) < fl R (b :: Bq) ∨ (fl R (a :: Aq) = fl R (b :: Bq) ∧ vb R A < vb R B)) = decide (fl R Aq < fl R Bq ∨ (fl R Aq = fl R Bq ∧ vb R A < vb R B)) from decide_eq_decide.mpr (by
            simp only [fl]
            rw [if_pos qa, if_pos qb, hlq]
            omega)]
        · rw [if_pos (ia.mpr qa), if_neg (fun q => qb (ib.mp q)), if_neg (by decide), if_pos (ia.mpr qa)]
          rw [decide_eq_false (by
            simp only [fl]
            rw [if_pos qa, if_neg qb, hlq]
            omega)]
          rfl
      · by_cases qb : b = R
        · rw [if_neg (fun q => qa (ia.mp q)), if_pos (ib.mpr qb), if_neg (by decide), if_neg (fun q => qa (ia.mp q))]
          rw [decide_eq_true (by
            simp only [fl]
            rw [if_neg qa, if_pos qb]
            omega)]
          rfl
        · rw [if_neg (fun q => qa (ia.mp q)), if_neg (fun q => qb (ib.mp q)), if_pos True.intro]
          rw [show decide (fl R (a :: Aq) < fl R (b :: Bq) ∨ (fl R (a :: Aq) = fl R (b :: Bq) ∧ vb R A < vb R B)) = decide (fl R Aq < fl R Bq ∨ (fl R Aq = fl R Bq ∧ vb R A < vb R B)) from decide_eq_decide.mpr (by
            simp only [fl]
            rw [if_neg qa, if_neg qb]
            omega)]
/-! counting -/
def incS (R : Nat) : List Nat → Option (List Nat)
  | [] => none
  | x :: xs => if x = R then (incS R xs).map (fun l => 0 :: l) else some ((x + 1) :: xs)
def vr (R : Nat) : List Nat → Nat
  | [] => 0
  | x :: xs => x + (R + 1) * vr R xs
theorem vr_lt {R : Nat} {X : List Nat} (h : ∀ x ∈ X, x ≤ R) : vr R X < (R + 1) ^ X.length := by
  induction X with
  | nil => simp [vr]
  | cons x X ih =>
    have h1 := ih (fun a ha => h a (List.mem_cons_of_mem _ ha))
    have h2 := h x List.mem_cons_self
    simp only [vr, List.length_cons, Nat.pow_succ]
    have h3 : (R + 1) * (vr R X + 1) ≤ (R + 1) * (R + 1) ^ X.length := Nat.mul_le_mul_left _ h1
    rw [Nat.mul_succ] at h3
    rw [Nat.mul_comm ((R + 1) ^ X.length)]
    omega
theorem vr_inj {R : Nat} : ∀ {X Y : List Nat}, X.length = Y.length → (∀ x ∈ X, x ≤ R) → (∀ x ∈ Y, x ≤ R) → vr R X = vr R Y → X = Y := by
  intro X
  induction X with
  | nil => intro Y hl _ _ _; exact (List.length_eq_zero_iff.mp hl.symm).symm
  | cons x X ih =>
    intro Y hl hX hY h
    match Y, hl with
    | y :: Y, hl =>
      have hx := hX x List.mem_cons_self
      have hy := hY y List.mem_cons_self
      simp only [vr] at h
      have hv : vr R X = vr R Y := by
        by_cases h1 : vr R X < vr R Y
        · have h3 : (R + 1) * (vr R X + 1) ≤ (R + 1) * vr R Y := Nat.mul_le_mul_left _ h1
          rw [Nat.mul_succ] at h3
          omega
        · by_cases h2 : vr R Y < vr R X
          · have h3 : (R + 1) * (vr R Y + 1) ≤ (R + 1) * vr R X := Nat.mul_le_mul_left _ h2
            rw [Nat.mul_succ] at h3
            omega
          · omega
      rw [hv] at h
      rw [ih (by simpa using hl) (fun a ha => hX a (List.mem_cons_of_mem _ ha)) (fun a ha => hY a (List.mem_cons_of_mem _ ha)) hv, show x = y by omega]
theorem inc_some {R : Nat} : ∀ {X X' : List Nat}, (∀ x ∈ X, x ≤ R) → incS R X = some X' → vr R X' = vr R X + 1 ∧ X'.length = X.length ∧ ∀ x ∈ X', x ≤ R := by
  intro X
  induction X with
  | nil => intro X' _ h; cases h
  | cons x X ih =>
    intro X' hX h
    have hx := hX x List.mem_cons_self
    have hX' := (fun a ha => hX a (List.mem_cons_of_mem _ ha) : ∀ a ∈ X, a ≤ R)
    rw [incS] at h
    by_cases hq : x = R
    · rw [if_pos hq] at h
      cases hi : incS R X with
      | none => rw [hi] at h; cases h
      | some Y =>
        rw [hi] at h
        cases h
        have := ih hX' hi
        refine ⟨?_, by simp [this.2.1], fun a ha => ?_⟩
        · simp only [vr]
          rw [this.1, Nat.mul_succ]
          omega
        · rw [List.mem_cons] at ha
          rcases ha with q | q
          · omega
          · exact this.2.2 a q
    · rw [if_neg hq] at h
      cases h
      refine ⟨?_, rfl, fun a ha => ?_⟩
      · simp only [vr]; omega
      · rw [List.mem_cons] at ha
        rcases ha with q | q
        · omega
        · exact hX' a q
theorem inc_none {R : Nat} : ∀ {X : List Nat}, incS R X = none → vr R X + 1 = (R + 1) ^ X.length := by
  intro X
  induction X with
  | nil => intro _; simp [vr]
  | cons x X ih =>
    intro h
    rw [incS] at h
    by_cases hq : x = R
    · rw [if_pos hq] at h
      cases hi : incS R X with
      | none =>
        have := ih hi
        simp only [vr, List.length_cons, Nat.pow_succ]
        rw [← this, hq, Nat.mul_comm (vr R X + 1), Nat.mul_succ]
        omega
      | some Y => rw [hi] at h; cases h
    · rw [if_neg hq] at h; cases h
theorem i32_sub1 (x : Int32) : x + (-1) = x - 1 := (Int32.sub_eq_add_neg x 1).symm
theorem lays93_ok {R i N : Nat} {r37 : Int32 → Int32 → Int32 → PS → Option PS} {Q : PS → Prop} (hi : i < 8) (hR : R ≤ 3) : ∀ (X Z : List Nat) (m : Nat) (σ : PS), gi σ 159 i = nI R → X.length + Z.length ≤ 6 → (∀ x ∈ X, x ≤ R) → stk (gi σ 190) (X.map nI) → stA (gi σ 190) X.length (Z.map nI) → (∀ z ∈ Z, z = 0) → (∀ τ : PS, incS R X = none → (∀ k j, k ≠ 190 → gi τ k j = gi σ k j) → hO (r37 (nI i) (nI N) 0 τ) Q) → (∀ (τ : PS) (X' : List Nat), incS R X = some X' → (∀ k j, k ≠ 190 → gi τ k j = gi σ k j) → stk (gi τ 190) ((Z ++ X').map nI) → hO (r37 (nI i) (nI N) 1 τ) Q) → hO (fX9_lays_93 r37 (m + X.length + 1) (nI i) (nI N) (nI X.length - 1) σ) Q := by
  intro X
  induction X with
  | nil =>
    intro Z m σ h159 hl dX hs hz hz0 k0 k1
    rw [fX9_lays_93, if_pos (show nI ([] : List Nat).length - 1 < 0 by decide)]
    unfold fX9_lays_128 fX9_lays_138 fX9_lays_154
    rw [if_pos (show nI ([] : List Nat).length - 1 < 0 by decide), if_pos rfl]
    exact k0 σ rfl (fun _ _ _ => rfl)
  | cons x X ih =>
    intro Z m σ h159 hl dX hs hz hz0 k0 k1
    simp only [List.length_cons] at hl hz
    simp only [List.map_cons, stk, List.length_map] at hs
    have hx := dX x List.mem_cons_self
    rw [List.length_cons, nI_pred, show m + (X.length + 1) + 1 = (m + X.length + 1) + 1 by omega, fX9_lays_93, if_neg (nI_pos (by omega)), gd_t (inb_nI (by omega) (by decide)), gd_t (inb_nI hi (by decide)), nI_clamp (show X.length < 2 ^ 31 by omega), nI_clamp (show i < 2 ^ 31 by omega), hs.1, h159]
    rw [incS] at k0 k1
    by_cases hq : x = R
    · rw [if_pos (show nI x = nI R by rw [hq]), gd_t (inb_nI (by omega) (by decide)), i32_sub1]
      rw [if_pos hq] at k0 k1
      refine ih (Z ++ [0]) m _ (by rw [gi_ne (by decide)]; exact h159) (by simp only [List.length_append, List.length_cons, List.length_nil]; omega) (fun a ha => dX a (List.mem_cons_of_mem _ ha)) (stk_congr (fun j hj => ?_) hs.2) ?_ ?_ ?_ ?_
      · rw [List.length_map] at hj
        rw [gi_nj (by omega)]
      · rw [List.map_append]
        refine stA_snoc (stA_congr (fun j h1 h2 => ?_) hz) ?_
        · rw [gi_nj (by omega)]
        · rw [gi_eq]; rfl
      · intro z hz'
        rw [List.mem_append, List.mem_singleton] at hz'
        rcases hz' with q | q
        · exact hz0 z q
        · exact q
      · intro τ hn hf
        exact k0 τ (by rw [hn]; rfl) (fun k j hk => by rw [hf k j hk, gi_ne hk])
      · intro τ X' hn hf hst
        refine k1 τ (0 :: X') (by rw [hn]; rfl) (fun k j hk => by rw [hf k j hk, gi_ne hk]) ?_
        rw [show Z ++ 0 :: X' = (Z ++ [0]) ++ X' by simp]
        exact hst
    · rw [if_neg (fun q => hq (nIeq_lit q (by omega) (by omega)))]
      rw [if_neg hq] at k0 k1
      unfold fX9_lays_128 fX9_lays_138 fX9_lays_154
      rw [if_neg (nI_pos (by omega)), if_neg (show ¬ (1 : Int32) = 0 by decide), gd_t (inb_nI (by omega) (by decide)), gd_t (inb_nI (by omega) (by decide)), nI_clamp (show X.length < 2 ^ 31 by omega), hs.1, nI_1]
      refine k1 _ ((x + 1) :: X) rfl (fun k j hk => gi_ne hk) ?_
      rw [List.map_append, stk_app]
      refine ⟨?_, ?_, ?_⟩
      · rw [List.length_map, List.length_cons]
        exact stA_congr (fun j h1 h2 => by rw [gi_nj (by omega)]) hz
      · rw [List.length_map, gi_eq]
      · exact stk_congr (fun j hj => by rw [List.length_map] at hj; rw [gi_nj (by omega)]) hs.2
theorem lays62_ok {i N : Nat} {r37 : Int32 → Int32 → Int32 → PS → Option PS} {Q : PS → Prop} (hN : N ≤ 6) : ∀ (q m k : Nat) (σ : PS), k + q = N → (∀ j, j < k → gi σ 191 j = gi σ 190 j) → (∀ τ : PS, (∀ k j, k ≠ 191 → gi τ k j = gi σ k j) → (∀ j, j < N → gi τ 191 j = gi τ 190 j) → hO (fX9_lays_88 r37 (nI i) (nI N) τ) Q) → hO (fX9_lays_62 r37 (m + q + 1) (nI i) (nI N) (nI k) σ) Q := by
  intro q
  induction q with
  | zero =>
    intro m k σ hq h1 hk
    have : k = N := by omega
    subst this
    rw [fX9_lays_62, if_pos (nI_le (Nat.le_refl _) (by omega))]
    exact hk σ (fun _ _ _ => rfl) h1
  | succ q ih =>
    intro m k σ hq h1 hk
    rw [show m + (q + 1) + 1 = (m + q + 1) + 1 by omega, fX9_lays_62, if_neg (nI_ge (by omega) (by omega)), gd_t (inb_nI (by omega) (by decide)), gd_t (inb_nI (by omega) (by decide)), nI_clamp (by omega), nI_1]
    refine ih m (k + 1) _ (by omega) (fun j hj => ?_) (fun τ t1 t2 => hk τ (fun k' j hk' => by rw [t1 k' j hk', gi_ne hk']) t2)
    by_cases hjk : j = k
    · subst hjk
      rw [gi_eq, gi_ne (by decide)]
    · rw [gi_nj hjk, gi_ne (by decide)]
      exact h1 j (by omega)
/-- digits -/
def dg (R N : Nat) (A : List Nat) : Prop := A.length = N ∧ ∀ a ∈ A, a ≤ R
theorem dg_rev {R N : Nat} {A : List Nat} (h : dg R N A) : dg R N A.reverse := ⟨by rw [List.length_reverse]; exact h.1, fun a ha => h.2 a (List.mem_reverse.mp ha)⟩
def bsR (e : TB) (i R : Nat) (O : List Nat) (v : Nat) (σ : PS) : Prop := (gi σ 191 0 = -1 ∧ ∀ A, dg R O.length A → vr R A.reverse < v → wyS e i O A R 0 0 = false) ∨ ∃ B, dg R O.length B ∧ (∀ j, j < O.length → gi σ 191 j = nI (B.getD j 0)) ∧ wyS e i O B R 0 0 = true ∧ ∀ A, dg R O.length A → vr R A.reverse < v → wyS e i O A R 0 0 = true → ahS R A B = false
/-- what the search rests on -/
def lyE (e : TB) (i R : Nat) (O : List Nat) (σ : PS) : Prop := (∀ j, j < O.length → gi σ 189 j = nI (O.getD j 0)) ∧ gi σ 159 i = nI R ∧ gi σ 157 i = e 5 i ∧ (∀ r, r < 3 → gi σ 160 (3 * i + r) = e (9 + i) r) ∧ ∀ c, gi σ 161 c = e 17 c ∧ gi σ 162 c = e 18 c ∧ gi σ 163 c = e 19 c
theorem lyE_fr {e : TB} {i R : Nat} {O : List Nat} {σ τ : PS} (h : lyE e i R O σ) (f : ∀ k j, k ≠ 190 → k ≠ 191 → gi τ k j = gi σ k j) : lyE e i R O τ := by
  obtain ⟨h1, h2, h3, h4, h5⟩ := h
  refine ⟨fun j hj => by rw [f _ _ (by decide) (by decide)]; exact h1 j hj, by rw [f _ _ (by decide) (by decide)]; exact h2, by rw [f _ _ (by decide) (by decide)]; exact h3, fun r hr => by rw [f _ _ (by decide) (by decide)]; exact h4 r hr, fun c => ?_⟩
  rw [f _ _ (by decide) (by decide), f _ _ (by decide) (by decide), f _ _ (by decide) (by decide)]
  exact h5 c
theorem stk_dig {f : Nat → Int32} {X : List Nat} (h : stk f (X.map nI)) : ∀ j, j < X.length → f j = nI (X.reverse.getD j 0) := by
  intro j hj
  rw [stk_get h j (by simpa using hj), ← List.map_reverse]
  rw [gD_get (by simpa using hj), gD_get (by simpa using hj), List.getElem_map]
theorem ah_trans {R : Nat} {A B C : List Nat} (h1 : ahS R A B = true) (h2 : ahS R B C = true) : ahS R A C = true := by
  unfold ahS at *
  rw [decide_eq_true_eq] at *
  omega
theorem ah_irr {R : Nat} {A : List Nat} : ahS R A A = false := by
  unfold ahS
  rw [decide_eq_false_iff_not]
  omega
theorem lays37_step {e : TB} {i R : Nat} {O X : List Nat} {n : Nat} {σ : PS} {Q : PS → Prop} (hi : i < 8) (hK : OK e i R O) (hc : ∀ c ∈ O, c < 6) (h0 : 0 < O.length) (dX : dg R O.length X) (hE : lyE e i R O σ) (hs : stk (gi σ 190) (X.map nI)) (hb : bsR e i R O (vr R X) σ) (k0 : incS R X = none → ∀ τ : PS, bsR e i R O (vr R X + 1) τ → hO (fX9_lays_37 n (nI i) (nI O.length) 0 τ) Q) (k1 : ∀ (τ : PS) (X' : List Nat), incS R X = some X' → lyE e i R O τ → stk (gi τ 190) (X'.map nI) → bsR e i R O (vr R X + 1) τ → hO (fX9_lays_37 n (nI i) (nI O.length) 1 τ) Q) : hO (fX9_lays_37 (n + 1) (nI i) (nI O.length) 1 σ) Q := by
  have hR := hK.1
  have hO6 := hK.2.1
  have hcc : ∀ c ∈ O, c < 6 ∧ isN (e 19 c) 1 9 ∧ isN (e 18 c) 1 30 ∧ isN (e 17 c) 0 3 := fun c h => ⟨hc c h, hK.2.2.2.1 c h⟩
  have dA := dg_rev dX
  have hA190 : ∀ j, j < O.length → gi σ 190 j = nI (X.reverse.getD j 0) := fun j hj => stk_dig hs j (by rw [dX.1]; exact hj)
  have hmE : mE e i R O X.reverse σ := ⟨fun j hj => ⟨hE.1 j hj, hA190 j hj⟩, hE.2.1, hE.2.2.1, hE.2.2.2.1, hE.2.2.2.2⟩
  rw [fX9_lays_37, if_neg (show ¬ (1 : Int32) = 0 by decide), isWay_eq hmE hi hR hO6 dA.1 hcc dA.2 hK.2.2.2.2.2 hK.2.2.2.2.1]
  simp only [Option.bind_some]
  rw [ite_tb]
  -- the next way
  have cont : ∀ τ : PS, bsR e i R O (vr R X + 1) τ → lyE e i R O τ → stk (gi τ 190) (X.map nI) → hO (fX9_lays_88 (fX9_lays_37 n) (nI i) (nI O.length) τ) Q := by
    intro τ tb tE ts
    unfold fX9_lays_88
    obtain ⟨m2, hm2⟩ := FU_k (X.length + 1) (by rw [dX.1]; omega)
    rw [hm2, ← dX.1]
    have bfr : ∀ υ : PS, (∀ k j, k ≠ 190 → gi υ k j = gi τ k j) → bsR e i R O (vr R X + 1) υ := by
      intro υ hu
      rcases tb with ⟨a, b⟩ | ⟨B, a, b, c, d⟩
      · exact Or.inl ⟨by rw [hu _ _ (by decide)]; exact a, b⟩
      · exact Or.inr ⟨B, a, fun j hj => by rw [hu _ _ (by decide)]; exact b j hj, c, d⟩
    refine lays93_ok hi hR X [] m2 τ tE.2.1 (by rw [dX.1]; simpa using hO6) dX.2 ts trivial (fun _ h => by cases h) ?_ ?_
    · intro υ hn hu
      rw [dX.1]
      exact k0 hn υ (bfr υ hu)
    · intro υ X' hn hu hst
      rw [dX.1]
      exact k1 υ X' hn (lyE_fr tE (fun k j h1 h2 => hu k j h1)) hst (bfr υ hu)
  -- every way up to this one
  have upto : ∀ A, dg R O.length A → vr R A.reverse < vr R X + 1 → vr R A.reverse < vr R X ∨ A = X.reverse := by
    intro A hA hv
    by_cases h : vr R A.reverse < vr R X
    · exact Or.inl h
    · right
      have := vr_inj (R := R) (X := A.reverse) (Y := X) (by rw [(dg_rev hA).1, dX.1]) (dg_rev hA).2 dX.2 (by omega)
      rw [← this, List.reverse_reverse]
  by_cases hw : wyS e i O X.reverse R 0 0 = true
  · rw [if_pos hw]
    unfold fX9_isAhead
    rw [gd_t (by decide), show (0 : Int32).toNatClampNeg = 0 from rfl]
    -- taken
    have take : (∀ A, dg R O.length A → vr R A.reverse < vr R X → wyS e i O A R 0 0 = true → ahS R A X.reverse = false) → hO (fX9_lays_62 (fX9_lays_37 n) FU (nI i) (nI O.length) 0 σ) Q := by
      intro hbest
      obtain ⟨m2, hm2⟩ := FU_k (O.length + 1) (by omega)
      rw [hm2]
      refine lays62_ok hO6 O.length m2 0 σ (by omega) (fun _ h => by omega) ?_
      intro τ t1 t2
      have ts : stk (gi τ 190) (X.map nI) := stk_congr (fun j _ => t1 190 j (by decide)) hs
      refine cont τ (Or.inr ⟨X.reverse, dA, fun j hj => ?_, hw, fun A hA hv hwA => ?_⟩) (lyE_fr hE (fun k j h1 h2 => t1 k j h2)) ts
      · rw [t2 j hj, t1 _ _ (by decide)]; exact hA190 j hj
      · rcases upto A hA hv with h | h
        · exact hbest A hA h hwA
        · rw [h]; exact ah_irr
    rcases hb with ⟨b1, b2⟩ | ⟨B, b1, b2, b3, b4⟩
    · rw [b1, if_pos rfl]
      simp only [Option.bind_some]
      rw [if_neg (show ¬ (1 : Int32) = 0 by decide)]
      exact take (fun A hA hv hwA => by rw [b2 A hA hv] at hwA; cases hwA)
    · rw [b2 0 h0, if_neg (nI_m1 (by
        have := getD_mem (l := B) (j := 0) (by rw [b1.1]; exact h0)
        have := b1.2 _ this
        omega))]
      obtain ⟨m2, hm2⟩ := FU_k (X.reverse.length + 1) (by rw [dA.1]; omega)
      have := ah14_ok (R := R) (i := i) (A := X.reverse) (B := B) (σ := σ) hi hE.2.1 (by rw [dA.1]; exact hO6) (by rw [b1.1, dA.1]) (fun j hj => hA190 j (by rw [← dA.1]; exact hj)) (fun j hj => b2 j (by rw [← dA.1]; exact hj)) dA.2 b1.2 hR X.reverse B [] [] m2 rfl rfl rfl
      have hfu : fX9_isAhead_14 FU (nI i) (nI O.length) 0 σ = some (tb (decide (fl R X.reverse < fl R B ∨ fl R X.reverse = fl R B ∧ vb R X.reverse < vb R B)), σ) := by
        rw [hm2, ← dA.1]
        exact this
      rw [hfu]
      simp only [Option.bind_some]
      rw [show (decide (fl R X.reverse < fl R B ∨ fl R X.reverse = fl R B ∧ vb R X.reverse < vb R B)) = ahS R X.reverse B from rfl, ite_tb]
      by_cases ha : ahS R X.reverse B = true
      · rw [if_pos ha]
        refine take (fun A hA hv hwA => ?_)
        cases hq : ahS R A X.reverse with
        | false => rfl
        | true =>
          have h3 := ah_trans hq ha
          rw [b4 A hA hv hwA] at h3
          cases h3
      · rw [if_neg ha]
        refine cont σ (Or.inr ⟨B, b1, b2, b3, fun A hA hv hwA => ?_⟩) hE hs
        rcases upto A hA hv with h | h
        · exact b4 A hA h hwA
        · rw [h]; exact Bool.eq_false_iff.mpr ha
  · rw [if_neg hw]
    refine cont σ ?_ hE hs
    rcases hb with ⟨b1, b2⟩ | ⟨B, b1, b2, b3, b4⟩
    · refine Or.inl ⟨b1, fun A hA hv => ?_⟩
      rcases upto A hA hv with h | h
      · exact b2 A hA h
      · rw [h]; exact Bool.eq_false_iff.mpr hw
    · refine Or.inr ⟨B, b1, b2, b3, fun A hA hv hwA => ?_⟩
      rcases upto A hA hv with h | h
      · exact b4 A hA h hwA
      · rw [h] at hwA; exact absurd hwA hw
theorem lays37_ok {e : TB} {i R : Nat} {O : List Nat} (hi : i < 8) (hK : OK e i R O) (hc : ∀ c ∈ O, c < 6) (h0 : 0 < O.length) : ∀ (q m : Nat) (X : List Nat) (σ : PS), dg R O.length X → vr R X + q + 1 = (R + 1) ^ O.length → lyE e i R O σ → stk (gi σ 190) (X.map nI) → bsR e i R O (vr R X) σ → hO (fX9_lays_37 (m + q + 2) (nI i) (nI O.length) 1 σ) (fun τ => bsR e i R O ((R + 1) ^ O.length) τ) := by
  intro q
  induction q with
  | zero =>
    intro m X σ dX hv hE hs hb
    refine lays37_step hi hK hc h0 dX hE hs hb (fun _ τ tb => ?_) (fun τ X' hn tE ts tb => ?_)
    · rw [show m + 0 + 1 = m + 1 from rfl, fX9_lays_37, if_pos rfl]
      refine ⟨_, rfl, ?_⟩
      rw [← hv]
      exact tb
    · have h1 := inc_some dX.2 hn
      have h2 := vr_lt h1.2.2
      rw [h1.2.1, dX.1] at h2
      omega
  | succ q ih =>
    intro m X σ dX hv hE hs hb
    rw [show m + (q + 1) + 2 = (m + q + 2) + 1 by omega]
    refine lays37_step hi hK hc h0 dX hE hs hb (fun hn τ tb => ?_) (fun τ X' hn tE ts tb => ?_)
    · have h1 := inc_none hn
      rw [dX.1] at h1
      omega
    · have h1 := inc_some dX.2 hn
      refine ih m X' τ ⟨by rw [h1.2.1, dX.1], h1.2.2⟩ (by omega) tE ts (by rw [h1.1]; exact tb)
theorem pow_le {R N : Nat} (hR : R ≤ 3) (hN : N ≤ 6) : (R + 1) ^ N ≤ 4096 := by
  have h1 : (R + 1) ^ N ≤ 4 ^ N := Nat.pow_le_pow_left (by omega) N
  have h2 : (4 : Nat) ^ N ≤ 4 ^ 6 := Nat.pow_le_pow_right (by decide) hN
  have h3 : (4 : Nat) ^ 6 = 4096 := by decide
  omega
theorem zeros_ok {R N : Nat} : dg R N (List.replicate N 0) ∧ vr R (List.replicate N 0) = 0 := by
  refine ⟨⟨List.length_replicate, fun a ha => by rw [List.eq_of_mem_replicate ha]; exact Nat.zero_le _⟩, ?_⟩
  induction N with
  | zero => rfl
  | succ N ih => rw [List.replicate_succ, vr, ih, Nat.mul_zero]
theorem stk_zeros {f : Nat → Int32} {N : Nat} (h : ∀ j, j < N → f j = 0) : stk f ((List.replicate N 0).map nI) := by
  induction N with
  | zero => trivial
  | succ N ih =>
    rw [List.replicate_succ, List.map_cons]
    exact ⟨by rw [List.length_map, List.length_replicate]; exact h N (by omega), ih (fun j hj => h j (by omega))⟩
theorem lays2_ok {i N : Nat} {Q : PS → Prop} (hN : N ≤ 6) : ∀ (q m k : Nat) (σ : PS), k + q = N → (∀ j, j < k → gi σ 190 j = 0 ∧ gi σ 191 j = -1) → (∀ τ : PS, (∀ k j, k ≠ 190 → k ≠ 191 → gi τ k j = gi σ k j) → (∀ j, j < N → gi τ 190 j = 0 ∧ gi τ 191 j = -1) → hO (if nI N ≤ 0 then fX9_lays_36 (nI i) (nI N) 0 τ else fX9_lays_36 (nI i) (nI N) 1 τ) Q) → hO (fX9_lays_2 (m + q + 1) (nI i) (nI N) (nI k) σ) Q := by
  intro q
  induction q with
  | zero =>
    intro m k σ hq h1 hk
    have : k = N := by omega
    subst this
    rw [fX9_lays_2, if_pos (nI_le (Nat.le_refl _) (by omega))]
    exact hk σ (fun _ _ _ _ => rfl) h1
  | succ q ih =>
    intro m k σ hq h1 hk
    rw [show m + (q + 1) + 1 = (m + q + 1) + 1 by omega, fX9_lays_2, if_neg (nI_ge (by omega) (by omega)), gd_t (inb_nI (by omega) (by decide)), gd_t (inb_nI (by omega) (by decide)), nI_clamp (by omega), nI_1]
    refine ih m (k + 1) _ (by omega) (fun j hj => ?_) (fun τ t1 t2 => hk τ (fun k' j h1 h2 => by rw [t1 k' j h1 h2, gi_ne h2, gi_ne h1]) t2)
    by_cases hjk : j = k
    · subst hjk
      rw [gi_ne (by decide), gi_eq, gi_eq]
      exact ⟨rfl, rfl⟩
    · rw [gi_ne (by decide), gi_nj hjk, gi_nj hjk, gi_ne (by decide)]
      exact h1 j (by omega)
/-- the reference lays the caravans as the class does -/
theorem lays_ok {e : TB} {i R : Nat} {O : List Nat} {σ : PS} (hi : i < 8) (hK : OK e i R O) (hc : ∀ c ∈ O, c < 6) (hE : lyE e i R O σ) : hO (fX9_lays (nI i) (nI O.length) σ) (fun τ => (∀ j, j < O.length → gi τ 191 j = if rmS (layS e i R O [] [] 0) (O.getD j 0) = -1 then nI R else rmS (layS e i R O [] [] 0) (O.getD j 0)) ∧ FRM SX9_lays σ τ) := by
  refine hO.and ?_ (fun a ea => frX9_lays _ _ _ _ ea)
  have hR := hK.1
  have hO6 := hK.2.1
  unfold fX9_lays
  obtain ⟨m, hm⟩ := FU_k (O.length + 1) (by omega)
  rw [hm]
  refine lays2_ok hO6 O.length m 0 σ (by omega) (fun _ h => by omega) ?_
  intro τ t1 t2
  unfold fX9_lays_36
  by_cases h0 : O.length = 0
  · rw [h0, if_pos (show nI 0 ≤ 0 by decide)]
    obtain ⟨m2, hm2⟩ := FU_k 1 (by decide)
    rw [hm2, fX9_lays_37, if_pos rfl]
    exact ⟨_, rfl, fun j hj => by omega⟩
  · rw [if_neg (nI_nle (by omega) (by omega))]
    have hz := zeros_ok (R := R) (N := O.length)
    have hp := pow_le (N := O.length) hR hO6
    have hpos : 1 ≤ (R + 1) ^ O.length := Nat.pos_of_ne_zero (by
      have := Nat.pow_pos (n := O.length) (show 0 < R + 1 by omega)
      omega)
    obtain ⟨m2, hm2⟩ := FU_k (((R + 1) ^ O.length - 1) + 2) (by omega)
    rw [hm2, ← Nat.add_assoc]
    refine (lays37_ok hi hK hc (by omega) ((R + 1) ^ O.length - 1) m2 (List.replicate O.length 0) τ hz.1 (by rw [hz.2]; omega) (lyE_fr hE t1) (stk_zeros (fun j hj => (t2 j hj).1)) (Or.inl ⟨(t2 0 (by omega)).2, fun A hA hv => by rw [hz.2] at hv; omega⟩)).mono (fun υ hb => ?_)
    obtain ⟨w1, w2, w3⟩ := lay_best hK
    have hk : ∀ c ∈ O, isN (e 17 c) 0 3 := fun c h => (hK.2.2.2.1 c h).2.2
    have dS : dg R O.length (O.map (aS R (layS e i R O [] [] 0))) := ⟨List.length_map _, fun a ha => by
      obtain ⟨c, hc, rfl⟩ := List.mem_map.mp ha
      exact w1.1 c hc⟩
    have hall : ∀ A, dg R O.length A → vr R A.reverse < (R + 1) ^ O.length := fun A hA => by
      have := vr_lt (dg_rev hA).2
      rw [(dg_rev hA).1] at this
      exact this
    have hwS : wyS e i O (O.map (aS R (layS e i R O [] [] 0))) R 0 0 = true := (way_iff hk w1.1).mpr w1
    rcases hb with ⟨b1, b2⟩ | ⟨B, b1, b2, b3, b4⟩
    · rw [b2 _ dS (hall _ dS)] at hwS
      cases hwS
    · -- the best is the class's
      have hBm : O.map (aS R (O, B)) = B := aS_map hK.2.2.1 b1.1
      have hBR : ∀ c ∈ O, aS R (O, B) c ≤ R := by
        intro c hcO
        have : aS R (O, B) c ∈ O.map (aS R (O, B)) := List.mem_map_of_mem hcO
        rw [hBm] at this
        exact b1.2 _ this
      have hWB : WayF e i R O (aS R (O, B)) := (way_iff hk hBR).mp (by rw [hBm]; exact b3)
      have h1 := w3 _ hWB
      rw [hBm] at h1
      have h2 := b4 _ dS (hall _ dS) hwS
      unfold ahS at h2
      rw [decide_eq_false_iff_not] at h2
      have heq : O.map (aS R (layS e i R O [] [] 0)) = B := vb_inj (R := R) (by rw [dS.1, b1.1]) dS.2 b1.2 (by omega)
      intro j hj
      have hO := getD_mem hj
      rw [b2 j hj, w2 _ hO, ← heq]
      have hget : (O.map (aS R (layS e i R O [] [] 0))).getD j 0 = aS R (layS e i R O [] [] 0) (O.getD j 0) := by
        rw [gD_get (by rw [List.length_map]; exact hj), gD_get hj, List.getElem_map]
      rw [hget]
      by_cases hq : aS R (layS e i R O [] [] 0) (O.getD j 0) = R
      · rw [if_pos hq, if_pos rfl, hq]
      · rw [if_neg hq, if_neg (nI_m1 (by have := w1.1 _ hO; omega))]
