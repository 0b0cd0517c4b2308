/-! the class's order of guests -/
def stA (f : Nat → Int32) (n : Nat) : List Int32 → Prop
  | [] => True
  | a :: s => f (n + s.length) = a ∧ stA f n s
theorem stA_congr {f g : Nat → Int32} {n : Nat} {s : List Int32} (h : ∀ j, n ≤ j → j < n + s.length → g j = f j) (hs : stA f n s) : stA g n s := by
  induction s with
  | nil => trivial
  | cons a s ih =>
    simp only [List.length_cons] at h
    exact ⟨by rw [h _ (by omega) (by omega)]; exact hs.1, ih (fun j h1 h2 => h j h1 (by omega)) hs.2⟩
theorem stk_app {f : Nat → Int32} {A B : List Int32} : stk f (A ++ B) ↔ stA f B.length A ∧ stk f B := by
  induction A with
  | nil => simp [stA]
  | cons a A ih =>
    simp only [List.cons_append, stk, stA, List.length_append]
    rw [ih, show A.length + B.length = B.length + A.length by omega, and_assoc]
theorem stA_snoc {f : Nat → Int32} {n : Nat} {A : List Int32} {x : Int32} (h : stA f (n + 1) A) (hx : f n = x) : stA f n (A ++ [x]) := by
  induction A with
  | nil => exact ⟨by simpa using hx, trivial⟩
  | cons a A ih =>
    refine ⟨?_, ih h.2⟩
    show f (n + (A ++ [x]).length) = a
    rw [List.length_append, show n + (A.length + [x].length) = n + 1 + A.length by simp; omega]
    exact h.1
theorem insR_len (rk : Nat → Int32) (c : Nat) (l : List Nat) : (insR rk c l).length = l.length + 1 := by
  induction l with
  | nil => rfl
  | cons x l ih =>
    rw [insR]
    split
    · rfl
    · rw [List.length_cons, ih, List.length_cons]
theorem admit_ok {c : Nat} (hc : c < 6) (rk : Nat → Int32) : ∀ (B A : List Nat) (m : Nat) (σ : PS), stA (gi σ 108) (B.length + 1) (A.map nI) → stA (gi σ 109) (B.length + 1) (A.map rk) → stk (gi σ 108) (B.map nI) → stk (gi σ 109) (B.map rk) → A.length + B.length < 6 → hO (fX3_admit_15 (m + B.length + 1) (nI c) (rk c) (nI B.length) σ) (fun τ => stk (gi τ 108) ((A ++ insR rk c B).map nI) ∧ stk (gi τ 109) ((A ++ insR rk c B).map rk) ∧ gi τ 107 2 = gi σ 107 2 + 1 ∧ ∀ k j, k ≠ 108 → k ≠ 109 → (k = 107 → j ≠ 2) → gi τ k j = gi σ k j) := by
  intro B
  -- the end of the loop: c is put behind B
  have fin : ∀ (B A : List Nat) (σ : PS), stA (gi σ 108) (B.length + 1) (A.map nI) → stA (gi σ 109) (B.length + 1) (A.map rk) → stk (gi σ 108) (B.map nI) → stk (gi σ 109) (B.map rk) → A.length + B.length < 6 → hO (fX3_admit_65 (nI c) (rk c) (nI B.length) σ) (fun τ => stk (gi τ 108) ((A ++ c :: B).map nI) ∧ stk (gi τ 109) ((A ++ c :: B).map rk) ∧ gi τ 107 2 = gi σ 107 2 + 1 ∧ ∀ k j, k ≠ 108 → k ≠ 109 → (k = 107 → j ≠ 2) → gi τ k j = gi σ k j) := by
    intro B A σ h1 h2 h3 h4 hl
    unfold fX3_admit_65
    rw [gd_t (inb_nI (by omega) (by decide)), gd_t (inb_nI (by omega) (by decide)), nI_clamp (by omega)]
    refine ⟨_, rfl, ?_, ?_, ?_, ?_⟩
    · rw [List.map_append, stk_app]
      refine ⟨stA_congr (fun j a b => ?_) (by simpa using h1), ?_, stk_congr (fun j a => ?_) h3⟩
      · simp only [List.length_map, List.length_cons] at a b
        rw [gi_ne (by decide), gi_ne (by decide), gi_nj (by omega)]
      · rw [gi_ne (by decide), gi_ne (by decide), List.length_map, gi_eq]
      · rw [List.length_map] at a
        rw [gi_ne (by decide), gi_ne (by decide), gi_nj (by omega)]
    · rw [List.map_append, stk_app]
      refine ⟨stA_congr (fun j a b => ?_) (by simpa using h2), ?_, stk_congr (fun j a => ?_) h4⟩
      · simp only [List.length_map, List.length_cons] at a b
        rw [gi_ne (by decide), gi_nj (by omega), gi_ne (by decide)]
      · rw [gi_ne (by decide), List.length_map, gi_eq]
      · rw [List.length_map] at a
        rw [gi_ne (by decide), gi_nj (by omega), gi_ne (by decide)]
    · rw [gi_eq, gi_ne (by decide), gi_ne (by decide)]
    · intro k j k1 k2 k3
      by_cases hk : k = 107
      · subst hk
        rw [gi_nj (k3 rfl), gi_ne (by decide), gi_ne (by decide)]
      · rw [gi_ne hk, gi_ne k2, gi_ne k1]
  induction B with
  | nil =>
    intro A m σ h1 h2 h3 h4 hl
    rw [fX3_admit_15, if_pos (show nI ([] : List Nat).length ≤ 0 by decide)]
    exact fin [] A σ h1 h2 h3 h4 hl
  | cons x B ih =>
    intro A m σ h1 h2 h3 h4 hl
    simp only [List.length_cons] at hl h1 h2
    simp only [List.map_cons, stk, List.length_map] at h3 h4
    rw [List.length_cons, show m + (B.length + 1) + 1 = (m + B.length + 1) + 1 by omega, fX3_admit_15, if_neg (nI_nle (by omega) (by omega)), nI_pred, gd_t (inb_nI (by omega) (by decide)), nI_clamp (by omega), h4.1]
    rw [insR]
    by_cases hr : rk c ≤ rk x
    · rw [if_pos hr, if_pos hr]
      exact fin (x :: B) A σ h1 h2 ⟨by rw [List.length_map]; exact h3.1, h3.2⟩ ⟨by rw [List.length_map]; exact h4.1, h4.2⟩ (by simp only [List.length_cons]; omega)
    · rw [if_neg hr, if_neg hr]
      repeat rw [gd_t (inb_nI (by omega) (by decide))]
      rw [nI_clamp (by omega), gi_ne (by decide), h3.1, h4.1, show nI (B.length + 1) + (-1) = nI B.length from nI_a1 (by omega)]
      have e1 : A ++ x :: insR rk c B = (A ++ [x]) ++ insR rk c B := by simp
      rw [e1]
      refine (ih (A ++ [x]) m _ ?_ ?_ ?_ ?_ (by simp only [List.length_append, List.length_cons, List.length_nil]; omega)).mono (fun τ ht => ⟨ht.1, ht.2.1, ?_, fun k j k1 k2 k3 => ?_⟩)
      · rw [List.map_append]
        refine stA_snoc (stA_congr (fun j a b => ?_) h1) ?_
        · rw [gi_ne (by decide), gi_nj (by omega)]
        · rw [gi_ne (by decide), gi_eq]
      · rw [List.map_append]
        refine stA_snoc (stA_congr (fun j a b => ?_) h2) ?_
        · rw [gi_nj (by omega), gi_ne (by decide)]
        · rw [gi_eq]
      · refine stk_congr (fun j a => ?_) h3.2
        rw [List.length_map] at a
        rw [gi_ne (by decide), gi_nj (by omega)]
      · refine stk_congr (fun j a => ?_) h4.2
        rw [List.length_map] at a
        rw [gi_nj (by omega), gi_ne (by decide)]
      · rw [ht.2.2.1, gi_ne (by decide), gi_ne (by decide)]
      · rw [ht.2.2.2 k j k1 k2 k3, gi_ne k2, gi_ne k1]
def OR (σ : PS) (rk : Nat → Int32) (L : List Nat) : Prop := stk (gi σ 108) (L.map nI) ∧ stk (gi σ 109) (L.map rk) ∧ gi σ 107 2 = nI L.length
theorem admit_all {c : Nat} (hc : c < 6) {rk : Nat → Int32} {L : List Nat} {σ : PS} (h : OR σ rk L) (hl : L.length < 6) : hO (fX3_admit (nI c) (rk c) σ) (fun τ => OR τ rk (insR rk c L) ∧ ∀ k j, k ≠ 108 → k ≠ 109 → (k = 107 → j ≠ 2) → gi τ k j = gi σ k j) := by
  unfold fX3_admit
  rw [h.2.2, if_pos (r_lt (k := 6) (by rfl) hl (by decide))]
  obtain ⟨m, hm⟩ := FU_k (L.length + 1) (by omega)
  rw [hm]
  refine (admit_ok hc rk L [] m σ trivial trivial h.1 h.2.1 (by simpa using hl)).mono (fun τ ht => ⟨⟨ht.1, ht.2.1, ?_⟩, ht.2.2.2⟩)
  rw [ht.2.2.1, h.2.2, nI_1, insR_len]
theorem ordS_len (D : TB) (i : Nat) : ∀ n, (ordS D i n).length ≤ n := by
  intro n
  induction n with
  | zero => exact Nat.le_refl _
  | succ n ih =>
    rw [ordS]
    split
    · rw [insR_len]; omega
    · omega
theorem mem_insR {rk : Nat → Int32} {c x : Nat} {l : List Nat} : x ∈ insR rk c l ↔ x = c ∨ x ∈ l := by
  induction l with
  | nil => simp [insR]
  | cons y l ih =>
    rw [insR]
    split
    · simp
    · rw [List.mem_cons, ih, List.mem_cons]
      constructor
      · rintro (h | h | h)
        · exact Or.inr (Or.inl h)
        · exact Or.inl h
        · exact Or.inr (Or.inr h)
      · rintro (h | h | h)
        · exact Or.inr (Or.inl h)
        · exact Or.inl h
        · exact Or.inr (Or.inr h)
theorem mem_ordS {D : TB} {i x : Nat} : ∀ {n : Nat}, x ∈ ordS D i n ↔ x < n ∧ D 0 x = nI i := by
  intro n
  induction n with
  | zero => simp [ordS]
  | succ n ih =>
    rw [ordS]
    split
    · rename_i h
      rw [mem_insR, ih]
      constructor
      · rintro (rfl | ⟨a, b⟩)
        · exact ⟨by omega, h⟩
        · exact ⟨by omega, b⟩
      · rintro ⟨a, b⟩
        by_cases hx : x = n
        · exact Or.inl hx
        · exact Or.inr ⟨by omega, b⟩
    · rename_i h
      rw [ih]
      constructor
      · rintro ⟨a, b⟩
        exact ⟨by omega, b⟩
      · rintro ⟨a, b⟩
        refine ⟨?_, b⟩
        by_cases hx : x = n
        · subst hx; exact absurd b h
        · omega
theorem nodup_insR {rk : Nat → Int32} {c : Nat} {l : List Nat} (h : l.Nodup) (hc : c ∉ l) : (insR rk c l).Nodup := by
  induction l with
  | nil => simp [insR]
  | cons y l ih =>
    rw [List.nodup_cons] at h
    rw [List.mem_cons, not_or] at hc
    rw [insR]
    split
    · rw [List.nodup_cons, List.nodup_cons, List.mem_cons, not_or]
      exact ⟨hc, h⟩
    · rw [List.nodup_cons, mem_insR, not_or]
      exact ⟨⟨fun q => hc.1 q.symm, h.1⟩, ih h.2 hc.2⟩
theorem nodup_ordS {D : TB} {i : Nat} : ∀ n, (ordS D i n).Nodup := by
  intro n
  induction n with
  | zero => exact List.nodup_nil
  | succ n ih =>
    rw [ordS]
    split
    · exact nodup_insR ih (fun h => by have := (mem_ordS.mp h).1; omega)
    · exact ih
/-- the guests of inn i, in order; then K goes on -/
theorem host10_ok {i d nc : Nat} {D : TB} (hd : d < 60) (hnc : nc ≤ 6) {Q : PS → Prop} : ∀ (q m c : Nat) (σ : PS), c + q = nc → gi σ 3 6 = nI nc → (∀ c', c' < nc → gi σ (44 + c') d = D 0 c' ∧ gi σ (79 + c') d = D 5 c') → OR σ (D 5) (ordS D i c) → (∀ τ : PS, (∀ k j, k ≠ 108 → k ≠ 109 → (k = 107 → j ≠ 2) → gi τ k j = gi σ k j) → OR τ (D 5) (ordS D i nc) → hO ((fX3_lay τ).bind (fun σ5 => (if nI d = 0 then fX1_host_80 (nI i) (nI d) 0 σ5 else gd (inb (nI i) 8) (gd (inb (nI d - 1) 60) (fX1_host_80 (nI i) (nI d) (gi σ5 (rw_ 92 (nI i)) ((nI d - 1) : Int32).toNatClampNeg) σ5))))) Q) → hO (fX1_host_10 (m + q + 1) (nI i) (nI d) (nI c) σ) Q := by
  intro q
  induction q with
  | zero =>
    intro m c σ hq h3 hR hO' hk
    have : c = nc := by omega
    subst this
    rw [fX1_host_10, h3, if_pos (nI_le (Nat.le_refl _) (by omega))]
    exact hk σ (fun _ _ _ _ _ => rfl) hO'
  | succ q ih =>
    intro m c σ hq h3 hR hO' hk
    have hc := hR c (by omega)
    rw [show m + (q + 1) + 1 = (m + q + 1) + 1 by omega, fX1_host_10, h3, if_neg (nI_ge (by omega) (by omega)), gd_t (inb_nI (by omega) (by decide)), gd_t (inb_nI hd (by decide)), r43 (by omega), nI_clamp (by omega), hc.1]
    unfold fX1_host_49
    rw [nI_1]
    by_cases hi : D 0 c = nI i
    · rw [if_pos hi, gd_t (inb_nI (by omega) (by decide)), gd_t (inb_nI hd (by decide)), r78 (by omega), hc.2]
      have hl := ordS_len D i c
      refine (admit_all (by omega) hO' (by omega)).then ?_
      rintro τ ⟨t1, t2⟩
      refine ih m (c + 1) τ (by omega) (by rw [t2 3 6 (by decide) (by decide) (by decide)]; exact h3) (fun c' hc' => ?_) (by rw [ordS, if_pos hi]; exact t1) (fun υ u1 u2 => hk υ (fun k j a b c => (u1 k j a b c).trans (t2 k j a b c)) u2)
      rw [t2 _ _ (by omega) (by omega) (by omega), t2 _ _ (by omega) (by omega) (by omega)]
      exact hR c' hc'
    · rw [if_neg hi]
      exact ih m (c + 1) σ (by omega) h3 hR (by rw [ordS, if_neg hi]; exact hO') hk
