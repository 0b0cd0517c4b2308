/-! what holds between two calls -/
def lnd (σ : PS) : TB := fun k j => if 3 ≤ k ∧ k ≤ 24 then gi σ k j else 0
theorem lnd_eq {σ : PS} {k j : Nat} (h1 : 3 ≤ k) (h2 : k ≤ 24) : lnd σ k j = gi σ k j := if_pos ⟨h1, h2⟩
theorem lnd_fr {σ τ : PS} (f : ∀ k j, 3 ≤ k → k ≤ 24 → gi τ k j = gi σ k j) : lnd τ = lnd σ := by
  funext k j
  unfold lnd
  by_cases h : 3 ≤ k ∧ k ≤ 24
  · rw [if_pos h, if_pos h, f k j h.1 h.2]
  · rw [if_neg h, if_neg h]
def shX (σ : PS) (n : Nat) : Nat → Nat → Bool := shS (gi σ 169) (gi σ 170) (gi σ 171) n
theorem shX_fr {σ τ : PS} {n : Nat} (f : ∀ j, j < n → gi τ 169 j = gi σ 169 j ∧ gi τ 170 j = gi σ 170 j ∧ gi τ 171 j = gi σ 171 j) : shX τ n = shX σ n := by
  funext i d
  exact shS_congr f
def cntS (a : Nat → Int32) : Nat → Nat
  | 0 => 0
  | n + 1 => if a n = 0 then cntS a n + 1 else cntS a n
theorem cntS_le (a : Nat → Int32) : ∀ n, cntS a n ≤ n := by
  intro n
  induction n with
  | zero => exact Nat.le_refl _
  | succ n ih => rw [cntS]; split <;> omega
theorem cntS_mono (a : Nat → Int32) : ∀ (k n : Nat), cntS a n ≤ cntS a (n + k) := by
  intro k
  induction k with
  | zero => intro n; exact Nat.le_refl _
  | succ k ih =>
    intro n
    have := ih n
    rw [show n + (k + 1) = (n + k) + 1 from rfl, cntS]
    split <;> omega
theorem cntS_same {a b c : Nat → Int32} : ∀ (k n : Nat), cntS a n = cntS a (n + k) → shS a b c (n + k) = shS a b c n := by
  intro k
  induction k with
  | zero => intro n _; rfl
  | succ k ih =>
    intro n h
    have h1 := cntS_mono a k n
    rw [show n + (k + 1) = (n + k) + 1 from rfl, cntS] at h
    by_cases h0 : a (n + k) = 0
    · rw [if_pos h0] at h; omega
    · rw [if_neg h0] at h
      rw [← ih n h]
      funext i d
      rw [show n + (k + 1) = (n + k) + 1 from rfl, shS_succ, decide_eq_false h0, Bool.false_and, Bool.or_false]
theorem cntS_eq {a b c : Nat → Int32} {n m : Nat} (h : cntS a n = cntS a m) : shS a b c n = shS a b c m := by
  by_cases hq : n ≤ m
  · obtain ⟨k, rfl⟩ := Nat.exists_eq_add_of_le hq
    exact (cntS_same k n h).symm
  · obtain ⟨k, rfl⟩ := Nat.exists_eq_add_of_le (show m ≤ n by omega)
    exact cntS_same k m h.symm
theorem cntS_congr {a a' : Nat → Int32} : ∀ {n : Nat}, (∀ j, j < n → a' j = a j) → cntS a' n = cntS a n := by
  intro n
  induction n with
  | zero => intro _; rfl
  | succ n ih => intro h; rw [cntS, cntS, h n (by omega), ih (fun j hj => h j (by omega))]
def IA (n : Nat) (σ : PS) : Prop := n ≤ 2000 ∧ gi σ 1 1 = nI n ∧ gi σ 132 2 = nI n ∧ ∀ j, j < n → gi σ 133 j = gi σ 2 j
def IP (σ : PS) : Prop := gi σ 38 7 = gi σ 132 17
def LX (σ : PS) : Prop := (gi σ 132 38 = gi σ 3 0 ∧ gi σ 132 44 = gi σ 3 6) ∧ (∀ j, gi σ 156 j = gi σ 4 j ∧ gi σ 157 j = gi σ 5 j ∧ gi σ 158 j = gi σ 6 j ∧ gi σ 159 j = gi σ 7 j ∧ gi σ 161 j = gi σ 17 j ∧ gi σ 162 j = gi σ 18 j ∧ gi σ 163 j = gi σ 19 j ∧ gi σ 164 j = gi σ 20 j ∧ gi σ 165 j = gi σ 21 j ∧ gi σ 166 j = gi σ 22 j ∧ gi σ 167 j = gi σ 23 j) ∧ (∀ i, i < 8 → ∀ r, r < 3 → gi σ 160 (3 * i + r) = gi σ (9 + i) r)
def IL (a c b : Nat) (σ : PS) : Prop := LE (gi σ) a c ∧ LX σ ∧ (b ≤ 60 ∧ gi σ 3 14 = nI b ∧ gi σ 132 52 = nI b ∧ (∀ j, gi σ 168 j = gi σ 24 j) ∧ ∀ j, j < b → ∃ q, q < c ∧ gi σ 24 j = nI q) ∧ (∀ j, c ≤ j → gi σ 23 j = 0) ∧ ∀ i, a ≤ i → gi σ 7 i = 0
def FX (σ : PS) (j : Nat) : Prop := gi σ 171 j = gi σ 27 j ∧ isN (gi σ 27 j) 0 59 ∧ ((gi σ 169 j = 0 ∧ gi σ 26 j = -1 ∧ ∃ i, i < 8 ∧ gi σ 170 j = nI i) ∨ (gi σ 169 j = 1 ∧ gi σ 28 j = 0 ∧ gi σ 170 j = gi σ 26 j ∧ isN (gi σ 26 j) 0 59) ∨ (gi σ 169 j = 2 ∧ gi σ 28 j = 1 ∧ gi σ 170 j = gi σ 26 j ∧ isN (gi σ 26 j) 0 59))
def IF (f : Nat) (σ : PS) : Prop := f ≤ 300 ∧ gi σ 25 0 = nI f ∧ gi σ 132 54 = nI f ∧ (∀ j, j < f → FX σ j) ∧ ∀ i, i < 8 → ∀ d, d < 60 → isN (gi σ (30 + i) d) 0 f ∧ ∀ n, n ≤ f → ((1 ≤ gi σ (30 + i) d ∧ gi σ (30 + i) d ≤ nI n) ↔ shX σ n i d = true)
def IB (l : List RU) (s : Nat) (σ : PS) : Prop := isBk (bkO σ) = true ∧ isBk (drO σ) = true ∧ bkO σ ≠ drO σ ∧ BKC σ (bkO σ) l ∧ BKM σ s l ∧ ∀ r ∈ l, r.1 = 0 → r.2.1 = 0
def IC (a c f : Nat) (l : List RU) (σ : PS) : Prop := gi σ 41 13 = -1 ∨ ∃ n, n ≤ f ∧ gi σ 41 13 = nI (cntS (gi σ 169) n) ∧ ∀ d, d < 60 → CT σ a c d (rodS (lnd σ) l (shX σ n) a c (d + 1))
def IR (a c f : Nat) (l : List RU) (σ : PS) : Prop := gi σ 132 58 = -1 ∨ ∃ n, n ≤ f ∧ gi σ 132 58 = nI n ∧ ∀ d, d < 60 → RT σ a c d (rodS (lnd σ) l (shX σ n) a c (d + 1))
def IV (n a c b f s : Nat) (l : List RU) (σ : PS) : Prop := IA n σ ∧ IP σ ∧ IL a c b σ ∧ IF f σ ∧ IB l s σ ∧ IC a c f l σ ∧ IR a c f l σ
def Inv (σ : PS) : Prop := ∃ n a c b f s l, IV n a c b f s l σ
/-! what each part rests on -/
theorem IA_fr {n : Nat} {σ τ : PS} (h : IA n σ) (f1 : gi τ 1 1 = gi σ 1 1) (f2 : ∀ j, gi τ 2 j = gi σ 2 j) (f3 : gi τ 132 2 = gi σ 132 2) (f4 : ∀ j, gi τ 133 j = gi σ 133 j) : IA n τ := ⟨h.1, by rw [f1]; exact h.2.1, by rw [f3]; exact h.2.2.1, fun j hj => by rw [f4, f2]; exact h.2.2.2 j hj⟩
theorem IP_fr {σ τ : PS} (h : IP σ) (f1 : gi τ 38 7 = gi σ 38 7) (f2 : gi τ 132 17 = gi σ 132 17) : IP τ := by
  unfold IP
  rw [f1, f2]
  exact h
theorem LE_congr {e e' : TB} {na nc : Nat} (h : LE e na nc) (f : ∀ k j, 3 ≤ k → k ≤ 24 → e' k j = e k j) : LE e' na nc := by
  obtain ⟨h1, h2, h3, h4, h5, h6⟩ := h
  refine ⟨h1, h2, by rw [f 3 0 (by decide) (by decide)]; exact h3, by rw [f 3 6 (by decide) (by decide)]; exact h4, fun i hi => ?_, fun c hc => ?_⟩
  · rw [f 4 i (by decide) (by decide), f 5 i (by decide) (by decide), f 6 i (by decide) (by decide), f 7 i (by decide) (by decide)]
    refine ⟨(h5 i hi).1, (h5 i hi).2.1, (h5 i hi).2.2.1, (h5 i hi).2.2.2.1, fun r hr => ?_⟩
    rw [f (9 + i) r (by omega) (by omega)]
    exact (h5 i hi).2.2.2.2 r hr
  · rw [f 17 c (by decide) (by decide), f 18 c (by decide) (by decide), f 19 c (by decide) (by decide), f 20 c (by decide) (by decide), f 21 c (by decide) (by decide), f 22 c (by decide) (by decide)]
    exact h6 c hc
theorem LX_fr {σ τ : PS} (h : LX σ) (f1 : ∀ k j, 3 ≤ k → k ≤ 24 → gi τ k j = gi σ k j) (f2 : ∀ k j, 156 ≤ k → k ≤ 168 → gi τ k j = gi σ k j) (f3 : gi τ 132 38 = gi σ 132 38) (f4 : gi τ 132 44 = gi σ 132 44) : LX τ := by
  obtain ⟨⟨a1, a2⟩, a3, a4⟩ := h
  refine ⟨⟨by rw [f3, f1 _ _ (by decide) (by decide)]; exact a1, by rw [f4, f1 _ _ (by decide) (by decide)]; exact a2⟩, fun j => ?_, fun i hi r hr => by rw [f2 _ _ (by decide) (by decide), f1 _ _ (by omega) (by omega)]; exact a4 i hi r hr⟩
  rw [f2 156 _ (by decide) (by decide), f2 157 _ (by decide) (by decide), f2 158 _ (by decide) (by decide), f2 159 _ (by decide) (by decide), f2 161 _ (by decide) (by decide), f2 162 _ (by decide) (by decide), f2 163 _ (by decide) (by decide), f2 164 _ (by decide) (by decide), f2 165 _ (by decide) (by decide), f2 166 _ (by decide) (by decide), f2 167 _ (by decide) (by decide), f1 4 _ (by decide) (by decide), f1 5 _ (by decide) (by decide), f1 6 _ (by decide) (by decide), f1 7 _ (by decide) (by decide), f1 17 _ (by decide) (by decide), f1 18 _ (by decide) (by decide), f1 19 _ (by decide) (by decide), f1 20 _ (by decide) (by decide), f1 21 _ (by decide) (by decide), f1 22 _ (by decide) (by decide), f1 23 _ (by decide) (by decide)]
  exact a3 j
theorem IL_fr {a c b : Nat} {σ τ : PS} (h : IL a c b σ) (f1 : ∀ k j, 3 ≤ k → k ≤ 24 → gi τ k j = gi σ k j) (f2 : ∀ k j, 156 ≤ k → k ≤ 168 → gi τ k j = gi σ k j) (f3 : gi τ 132 38 = gi σ 132 38) (f4 : gi τ 132 44 = gi σ 132 44) (f5 : gi τ 132 52 = gi σ 132 52) : IL a c b τ := by
  obtain ⟨h1, h2, ⟨h3, h4, h5, h6, h7⟩, h8, h9⟩ := h
  refine ⟨LE_congr h1 f1, LX_fr h2 f1 f2 f3 f4, ⟨h3, by rw [f1 _ _ (by decide) (by decide)]; exact h4, by rw [f5]; exact h5, fun j => by rw [f2 _ _ (by decide) (by decide), f1 _ _ (by decide) (by decide)]; exact h6 j, fun j hj => by rw [f1 _ _ (by decide) (by decide)]; exact h7 j hj⟩, fun j hj => by rw [f1 _ _ (by decide) (by decide)]; exact h8 j hj, fun i hi => by rw [f1 _ _ (by decide) (by decide)]; exact h9 i hi⟩
theorem FX_fr {σ τ : PS} {j : Nat} (h : FX σ j) (f1 : ∀ k, 26 ≤ k → k ≤ 28 → gi τ k j = gi σ k j) (f2 : ∀ k, 169 ≤ k → k ≤ 171 → gi τ k j = gi σ k j) : FX τ j := by
  unfold FX
  rw [f1 26 (by decide) (by decide), f1 27 (by decide) (by decide), f1 28 (by decide) (by decide), f2 169 (by decide) (by decide), f2 170 (by decide) (by decide), f2 171 (by decide) (by decide)]
  exact h
theorem IF_fr {f : Nat} {σ τ : PS} (h : IF f σ) (f1 : ∀ k j, 25 ≤ k → k ≤ 37 → gi τ k j = gi σ k j) (f2 : ∀ k j, 169 ≤ k → k ≤ 171 → gi τ k j = gi σ k j) (f3 : gi τ 132 54 = gi σ 132 54) : IF f τ := by
  obtain ⟨h1, h2, h3, h4, h5⟩ := h
  refine ⟨h1, by rw [f1 _ _ (by decide) (by decide)]; exact h2, by rw [f3]; exact h3, fun j hj => FX_fr (h4 j hj) (fun k a b => f1 k j (by omega) (by omega)) (fun k a b => f2 k j a b), fun i hi d hd => ?_⟩
  rw [f1 _ _ (by omega) (by omega)]
  refine ⟨(h5 i hi d hd).1, fun n hn => ?_⟩
  rw [shX_fr (σ := σ) (fun j _ => ⟨f2 _ _ (by decide) (by decide), f2 _ _ (by decide) (by decide), f2 _ _ (by decide) (by decide)⟩)]
  exact (h5 i hi d hd).2 n hn
theorem IB_fr {l : List RU} {s : Nat} {σ τ : PS} (h : IB l s σ) (hb : bkO τ = bkO σ) (hd : drO τ = drO σ) (f1 : ∀ i, i ≤ 6 → ∀ j, gi τ (bkO σ + i) j = gi σ (bkO σ + i) j) (f2 : ∀ k j, 140 ≤ k → k ≤ 154 → gi τ k j = gi σ k j) (f3 : gi τ 132 18 = gi σ 132 18) : IB l s τ := by
  obtain ⟨h1, h2, h3, h4, h5, h6⟩ := h
  refine ⟨by rw [hb]; exact h1, by rw [hd]; exact h2, by rw [hb, hd]; exact h3, by rw [hb]; exact BKC_fr f1 h4, BKM_fr h5 f3 (fun k a b j => f2 k j a b), h6⟩
theorem IC_fr {a c f : Nat} {l : List RU} {σ τ : PS} (ha : a ≤ 8) (hc : c ≤ 6) (h : IC a c f l σ) (f1 : gi τ 41 13 = gi σ 41 13) (f2 : ∀ k j, 44 ≤ k → k ≤ 106 → gi τ k j = gi σ k j) (f3 : ∀ k j, 3 ≤ k → k ≤ 24 → gi τ k j = gi σ k j) (f4 : ∀ k j, j < f → 169 ≤ k → k ≤ 171 → gi τ k j = gi σ k j) : IC a c f l τ := by
  rcases h with h | ⟨n, h1, h2, h3⟩
  · exact Or.inl (by rw [f1]; exact h)
  · refine Or.inr ⟨n, h1, ?_, fun d hd => ?_⟩
    · rw [f1, h2, cntS_congr (a := gi σ 169) (a' := gi τ 169) (fun j hj => f4 _ _ (by omega) (by decide) (by decide))]
    · rw [lnd_fr f3, shX_fr (σ := σ) (fun j hj => ⟨f4 _ _ (by omega) (by decide) (by decide), f4 _ _ (by omega) (by decide) (by decide), f4 _ _ (by omega) (by decide) (by decide)⟩)]
      exact CT_fr hc ha (h3 d hd) (fun k h1 h2 => f2 k d h1 h2)
theorem RT_fr {σ τ : PS} {na nc d : Nat} {D : TB} (h : RT σ na nc d D) (f : ∀ k j, 172 ≤ k → k ≤ 180 → gi τ k j = gi σ k j) : RT τ na nc d D := by
  obtain ⟨r1, r2, r3⟩ := h
  refine ⟨fun c hc => ?_, fun i hi => by rw [f _ _ (by decide) (by decide)]; exact r2 i hi, fun x hx => by rw [f _ _ (by decide) (by decide)]; exact r3 x hx⟩
  rw [f _ _ (by decide) (by decide), f _ _ (by decide) (by decide), f _ _ (by decide) (by decide), f _ _ (by decide) (by decide), f _ _ (by decide) (by decide), f _ _ (by decide) (by decide), f _ _ (by decide) (by decide)]
  exact r1 c hc
theorem IR_fr {a c f : Nat} {l : List RU} {σ τ : PS} (h : IR a c f l σ) (f1 : gi τ 132 58 = gi σ 132 58) (f2 : ∀ k j, 172 ≤ k → k ≤ 180 → gi τ k j = gi σ k j) (f3 : ∀ k j, 3 ≤ k → k ≤ 24 → gi τ k j = gi σ k j) (f4 : ∀ k j, j < f → 169 ≤ k → k ≤ 171 → gi τ k j = gi σ k j) : IR a c f l τ := by
  rcases h with h | ⟨n, h1, h2, h3⟩
  · exact Or.inl (by rw [f1]; exact h)
  · refine Or.inr ⟨n, h1, by rw [f1]; exact h2, fun d hd => ?_⟩
    rw [lnd_fr f3, shX_fr (σ := σ) (fun j hj => ⟨f4 _ _ (by omega) (by decide) (by decide), f4 _ _ (by omega) (by decide) (by decide), f4 _ _ (by omega) (by decide) (by decide)⟩)]
    exact RT_fr (h3 d hd) f2
/-! the class walks, the reference goes, when they must -/
theorem shuts_ok {σ : PS} {f : Nat} (hF : IF f σ) : ∀ (q m j n : Nat), j + q = n → n ≤ f → fX0_shutsAmong_4 (m + q + 1) (nI n) (nI (cntS (gi σ 169) j)) (nI j) σ = some (nI (cntS (gi σ 169) n), σ) := by
  intro q
  have hf := hF.1
  induction q with
  | zero =>
    intro m j n hq hn
    have : j = n := by omega
    subst this
    rw [fX0_shutsAmong_4, if_pos (nI_le (Nat.le_refl _) (by omega))]
  | succ q ih =>
    intro m j n hq hn
    rw [show m + (q + 1) + 1 = (m + q + 1) + 1 by omega, fX0_shutsAmong_4, if_neg (nI_ge (by omega) (by omega)), if_neg (l_nle (k := 300) (by rfl) (by omega) (by decide)), gd_t (inb_nI (by omega) (by decide)), nI_clamp (by omega)]
    unfold fX0_shutsAmong_29
    rw [nI_1, nI_1]
    have ih' := ih m (j + 1) n (by omega) hn
    rw [cntS] at ih'
    rcases (hF.2.2.2.1 j (by omega)).2.2 with ⟨h1, h2, -⟩ | ⟨h1, -, -, k, h2, -, h3⟩ | ⟨h1, -, -, k, h2, -, h3⟩
    · rw [if_pos h2]
      rw [if_pos h1] at ih'
      exact ih'
    · rw [if_neg (by rw [h2]; exact nI_m1 (by omega))]
      rw [if_neg (by rw [h1]; decide)] at ih'
      exact ih'
    · rw [if_neg (by rw [h2]; exact nI_m1 (by omega))]
      rw [if_neg (by rw [h1]; decide)] at ih'
      exact ih'
/-- nothing but the class's walk -/
def kF (σ τ : PS) : Prop := ∀ k j, k ≠ 42 → k ≠ 123 → k ≠ 131 → ¬ (44 ≤ k ∧ k ≤ 115) → (k = 41 → j ≠ 13) → gi τ k j = gi σ k j
theorem IV_kF {n a c b f s : Nat} {l : List RU} {σ τ : PS} (h : IV n a c b f s l σ) (g : kF σ τ) (hb : bkO τ = bkO σ) (hd : drO τ = drO σ) (hC : IC a c f l τ) : IV n a c b f s l τ := by
  obtain ⟨h1, h2, h3, h4, h5, h6, h7⟩ := h
  have hbk := bk_or h5.1
  refine ⟨IA_fr h1 (g _ _ (by decide) (by decide) (by decide) (by decide) (by decide)) (fun j => g _ _ (by decide) (by decide) (by decide) (by decide) (by omega)) (g _ _ (by decide) (by decide) (by decide) (by decide) (by decide)) (fun j => g _ _ (by decide) (by decide) (by decide) (by decide) (by omega)), IP_fr h2 (g _ _ (by decide) (by decide) (by decide) (by decide) (by decide)) (g _ _ (by decide) (by decide) (by decide) (by decide) (by decide)), IL_fr h3 (fun k j _ _ => g k j (by omega) (by omega) (by omega) (by omega) (by omega)) (fun k j _ _ => g k j (by omega) (by omega) (by omega) (by omega) (by omega)) (g _ _ (by decide) (by decide) (by decide) (by decide) (by decide)) (g _ _ (by decide) (by decide) (by decide) (by decide) (by decide)) (g _ _ (by decide) (by decide) (by decide) (by decide) (by decide)), IF_fr h4 (fun k j _ _ => g k j (by omega) (by omega) (by omega) (by omega) (by omega)) (fun k j _ _ => g k j (by omega) (by omega) (by omega) (by omega) (by omega)) (g _ _ (by decide) (by decide) (by decide) (by decide) (by decide)), IB_fr h5 hb hd (fun i hi j => g _ j (by omega) (by omega) (by omega) (by omega) (by omega)) (fun k j _ _ => g k j (by omega) (by omega) (by omega) (by omega) (by omega)) (g _ _ (by decide) (by decide) (by decide) (by decide) (by decide)), hC, IR_fr h7 (g _ _ (by decide) (by decide) (by decide) (by decide) (by decide)) (fun k j _ _ => g k j (by omega) (by omega) (by omega) (by omega) (by omega)) (fun k j _ _ => g k j (by omega) (by omega) (by omega) (by omega) (by omega)) (fun k j _ _ _ => g k j (by omega) (by omega) (by omega) (by omega) (by omega))⟩
theorem walk_ok {n a c b f s : Nat} {l : List RU} {σ : PS} (h : IV n a c b f s l σ) {k : Nat} (hk : k ≤ f) : hO (fX1_walk (bkO σ) (nI k) σ) (fun τ => IV n a c b f s l τ ∧ (∀ d, d < 60 → CT τ a c d (rodS (lnd τ) l (shX τ k) a c (d + 1))) ∧ kF σ τ) := by
  have h0 := h
  obtain ⟨h1, h2, h3, h4, h5, h6, h7⟩ := h
  have hLE := h3.1
  have hw : hO (fX1_walk (bkO σ) (nI k) σ) (fun τ => (IC a c f l τ ∧ (∀ d, d < 60 → CT τ a c d (rodS (lnd τ) l (shX τ k) a c (d + 1))) ∧ kF σ τ)) := by
    unfold fX1_walk fX0_shutsAmong
    obtain ⟨m, hm⟩ := FU_k (k + 1) (by have := h4.1; omega)
    have hs := shuts_ok h4 k m 0 k (by omega) hk
    have hfu : fX0_shutsAmong_4 FU (nI k) 0 0 σ = some (nI (cntS (gi σ 169) k), σ) := by rw [hm]; exact hs
    rw [hfu]
    simp only [Option.bind_some]
    have hcle := cntS_le (gi σ 169) k
    have hf := h4.1
    by_cases hq : nI (cntS (gi σ 169) k) = gi σ 41 13
    · rw [if_pos hq]
      refine ⟨_, rfl, h6, ?_, fun _ _ _ _ _ _ _ => rfl⟩
      rcases h6 with h6 | ⟨n0, g1, g2, g3⟩
      · rw [h6] at hq
        exact absurd hq (nI_m1 (by omega))
      · rw [g2] at hq
        have hle := cntS_le (gi σ 169) n0
        have := nIeq_lit hq (by omega) (by omega)
        have e1 : shX σ k = shX σ n0 := cntS_eq this
        rw [e1]
        exact g3
    · rw [if_neg hq]
      generalize hσ1 : sI σ 41 13 (nI (cntS (gi σ 169) k)) = σ1
      have s1 : ∀ k j, (k = 41 → j ≠ 13) → gi σ1 k j = gi σ k j := by
        intro k j hh
        rw [← hσ1]
        by_cases hk : k = 41
        · subst hk; rw [gi_nj (hh rfl)]
        · rw [gi_ne hk]
      have hbk := bk_or h5.1
      have hE1 : CE (lnd σ) l (bkO σ) (shX σ k) k σ1 := by
        refine ⟨fun k a b j => by rw [s1 _ _ (by omega), lnd_eq a b], BKC_fr (fun i hi j => s1 _ _ (by omega)) h5.2.2.2.1, fun i hi d hd => ?_⟩
        rw [s1 _ _ (by omega)]
        exact (h4.2.2.2.2 i hi d hd).2 k hk
      have hLE' : LE (lnd σ) a c := LE_congr hLE (fun k j x y => lnd_eq x y)
      obtain ⟨m2, hm2⟩ := FU_k 61 (by decide)
      rw [hm2]
      refine (walk26_ok h5.1 hLE' h5.2.2.2.2.2 60 m2 0 σ1 (by omega) hE1 ⟨fun c hc => ⟨rfl, rfl, rfl, rfl⟩, fun i hi => rfl, fun x hx => rfl⟩ (fun _ hh => by omega)).mono (fun τ ht => ?_)
      have t1 : kF σ τ := fun k j a b c d e => by rw [ht.2 k a b c (by omega) j, s1 k j e]
      have tl : lnd τ = lnd σ := lnd_fr (fun k j _ _ => t1 k j (by omega) (by omega) (by omega) (by omega) (by omega))
      have tsh : ∀ n, shX τ n = shX σ n := fun n => shX_fr (fun j _ => ⟨t1 _ _ (by decide) (by decide) (by decide) (by decide) (by omega), t1 _ _ (by decide) (by decide) (by decide) (by decide) (by omega), t1 _ _ (by decide) (by decide) (by decide) (by decide) (by omega)⟩)
      have hCT : ∀ d, d < 60 → CT τ a c d (rodS (lnd τ) l (shX τ k) a c (d + 1)) := fun d hd => by
        rw [tl, tsh]
        exact ht.1 d hd
      refine ⟨Or.inr ⟨k, hk, ?_, hCT⟩, hCT, t1⟩
      rw [ht.2 41 (by decide) (by decide) (by decide) (by decide), ← hσ1, gi_eq]
      congr 1
      refine (cntS_congr (fun j _ => ?_)).symm
      exact t1 _ _ (by decide) (by decide) (by decide) (by decide) (by omega)
  refine (hw.and (fun τ e => frX1_walk h5.1 _ _ _ e)).mono (fun τ ht => ?_)
  obtain ⟨⟨t1, t2, t3⟩, tF⟩ := ht
  exact ⟨IV_kF h0 t3 tF.2.2.1 tF.2.2.2 t1, t2, t3⟩
/-- nothing but what the reference goes through -/
def gF (σ τ : PS) : Prop := ∀ k j, ¬ (172 ≤ k ∧ k ≤ 192) → (k = 132 → j ≠ 58) → gi τ k j = gi σ k j
theorem goes_ok {n a c b f s : Nat} {l : List RU} {σ : PS} (h : IV n a c b f s l σ) {k : Nat} (hk : k ≤ f) : hO (fX9_goes (nI k) σ) (fun τ => IV n a c b f s l τ ∧ (∀ d, d < 60 → RT τ a c d (rodS (lnd τ) l (shX τ k) a c (d + 1))) ∧ gF σ τ) := by
  have hfr : ∀ τ, fX9_goes (nI k) σ = some τ → FRM SX9_goes σ τ := fun τ e => frX9_goes _ _ _ e
  obtain ⟨h1, h2, h3, h4, h5, h6, h7⟩ := h
  have hf := h4.1
  unfold fX9_goes at hfr ⊢
  by_cases hq : gi σ 132 58 = nI k
  · rw [if_pos hq]
    refine ⟨_, rfl, ⟨h1, h2, h3, h4, h5, h6, h7⟩, ?_, fun _ _ _ _ => rfl⟩
    rcases h7 with h7 | ⟨n0, g1, g2, g3⟩
    · rw [h7] at hq
      exact absurd hq.symm (nI_m1 (by omega))
    · rw [g2] at hq
      have := nIeq_lit hq (by omega) (by omega)
      rw [← this]
      exact g3
  · rw [if_neg hq] at hfr ⊢
    generalize hσ1 : sI σ 132 58 (nI k) = σ1 at hfr ⊢
    have s1 : ∀ k j, (k = 132 → j ≠ 58) → gi σ1 k j = gi σ k j := by
      intro k j hh
      rw [← hσ1]
      by_cases hk : k = 132
      · subst hk; rw [gi_nj (hh rfl)]
      · rw [gi_ne hk]
    have hLE' : LE (lnd σ) a c := LE_congr h3.1 (fun k j x y => lnd_eq x y)
    have hML : ML (lnd σ) l s σ := by
      obtain ⟨⟨a1, a2⟩, a3, a4⟩ := h3.2.1
      refine ⟨⟨by rw [lnd_eq (by decide) (by decide)]; exact a1, by rw [lnd_eq (by decide) (by decide)]; exact a2⟩, fun j => ?_, fun i hi r hr => by rw [lnd_eq (by omega) (by omega)]; exact a4 i hi r hr, h5.2.2.2.2.1⟩
      rw [lnd_eq (by decide) (by decide), lnd_eq (by decide) (by decide), lnd_eq (by decide) (by decide), lnd_eq (by decide) (by decide), lnd_eq (by decide) (by decide), lnd_eq (by decide) (by decide), lnd_eq (by decide) (by decide), lnd_eq (by decide) (by decide), lnd_eq (by decide) (by decide), lnd_eq (by decide) (by decide), lnd_eq (by decide) (by decide)]
      exact a3 j
    have hfc : fcM σ1 k := by
      intro j hj h0
      rw [s1 _ _ (by omega)] at h0
      rw [s1 _ _ (by omega), s1 _ _ (by omega)]
      obtain ⟨x1, ⟨d, x2, -, x3⟩, x4⟩ := h4.2.2.2.1 j (by omega)
      rcases x4 with ⟨-, -, i, hi, y⟩ | ⟨y, -⟩ | ⟨y, -⟩
      · exact ⟨i, d, hi, by omega, y, by rw [x1, x2]⟩
      · rw [h0] at y; exact absurd y (by decide)
      · rw [h0] at y; exact absurd y (by decide)
    have hsh1 : shS (gi σ1 169) (gi σ1 170) (gi σ1 171) k = shX σ k := shX_fr (τ := σ1) (fun j _ => ⟨s1 _ _ (by omega), s1 _ _ (by omega), s1 _ _ (by omega)⟩)
    have hg := goes16_ok h5.2.2.2.2.2 hLE' (by omega) hfc (ML_fr hML (fun k j _ _ hh => s1 k j hh))
    refine (hg.and (fun τ e => hfr τ e)).mono (fun τ ht => ?_)
    obtain ⟨⟨t1, t2⟩, tF⟩ := ht
    rw [hsh1] at t1
    have t3 : gF σ τ := fun k j x y => by rw [t2 k j x, s1 k j y]
    have tl : lnd τ = lnd σ := lnd_fr (fun k j _ _ => t3 k j (by omega) (by omega))
    have tsh : ∀ n, shX τ n = shX σ n := fun n => shX_fr (fun j _ => ⟨t3 _ _ (by decide) (by omega), t3 _ _ (by decide) (by omega), t3 _ _ (by decide) (by omega)⟩)
    have hRT : ∀ d, d < 60 → RT τ a c d (rodS (lnd τ) l (shX τ k) a c (d + 1)) := fun d hd => by
      rw [tl, tsh]
      exact t1 d hd
    have hbk := bk_or h5.1
    refine ⟨⟨IA_fr h1 (t3 _ _ (by decide) (by decide)) (fun j => t3 _ _ (by decide) (by omega)) (t3 _ _ (by decide) (by decide)) (fun j => t3 _ _ (by decide) (by omega)), IP_fr h2 (t3 _ _ (by decide) (by decide)) (t3 _ _ (by decide) (by decide)), IL_fr h3 (fun k j _ _ => t3 k j (by omega) (by omega)) (fun k j _ _ => t3 k j (by omega) (by omega)) (t3 _ _ (by decide) (by decide)) (t3 _ _ (by decide) (by decide)) (t3 _ _ (by decide) (by decide)), IF_fr h4 (fun k j _ _ => t3 k j (by omega) (by omega)) (fun k j _ _ => t3 k j (by omega) (by omega)) (t3 _ _ (by decide) (by decide)), IB_fr h5 (by rw [tF.2.2.1]) (by rw [tF.2.2.2]) (fun i hi j => t3 _ j (by omega) (by omega)) (fun k j _ _ => t3 k j (by omega) (by omega)) (t3 _ _ (by decide) (by decide)), IC_fr h3.1.1 h3.1.2.1 h6 (t3 _ _ (by decide) (by decide)) (fun k j _ _ => t3 k j (by omega) (by omega)) (fun k j _ _ => t3 k j (by omega) (by omega)) (fun k j _ _ _ => t3 k j (by omega) (by omega)), Or.inr ⟨k, hk, ?_, hRT⟩⟩, hRT, t3⟩
    rw [t2 132 58 (by decide), ← hσ1, gi_eq]
