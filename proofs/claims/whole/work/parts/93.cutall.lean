/-! all tokens, by the reference -/
def psS (T : Nat → Int32) (n : Nat) : Nat → Nat
  | 0 => 0
  | i + 1 => tkE T n (skS T n (psS T n i))
def toS (T : Nat → Int32) (n i : Nat) : Nat := skS T n (psS T n i)
def kdS (T : Nat → Int32) (n i : Nat) : Nat := tkK T n (toS T n i)
def vaS (T : Nat → Int32) (n i : Nat) : Int32 := tkV T n (toS T n i)
def TKS (T : Nat → Int32) (n c : Nat) (σ : PS) : Prop := ∀ i, i < c → RK (kdS T n i) (gi σ 135 i) ∧ gi σ 136 i = nI (toS T n i) ∧ (kdS T n i = 2 → gi σ 137 i = vaS T n i)
theorem tkW_135 {σ : PS} {c i : Nat} {a1 a2 a3 : Int32} {a4 : Int64} : gi (tkW σ c a1 a2 a3 a4) 135 i = gi (sI σ 135 c a1) 135 i := by
  unfold tkW; rw [gi_ne (by decide), gi_sJ, gi_ne (by decide), gi_ne (by decide)]
theorem tkW_136 {σ : PS} {c i : Nat} {a1 a2 a3 : Int32} {a4 : Int64} : gi (tkW σ c a1 a2 a3 a4) 136 i = gi (sI σ 136 c a2) 136 i := by
  unfold tkW
  rw [gi_ne (by decide), gi_sJ, gi_ne (by decide)]
  by_cases h : i = c
  · subst h; rw [gi_eq, gi_eq]
  · rw [gi_nj h, gi_nj h, gi_ne (by decide)]
theorem tkW_137 {σ : PS} {c i : Nat} {a1 a2 a3 : Int32} {a4 : Int64} : gi (tkW σ c a1 a2 a3 a4) 137 i = gi (sI σ 137 c a3) 137 i := by
  unfold tkW
  rw [gi_ne (by decide), gi_sJ]
  by_cases h : i = c
  · subst h; rw [gi_eq, gi_eq]
  · rw [gi_nj h, gi_nj h, gi_ne (by decide), gi_ne (by decide)]
theorem tk_push {T : Nat → Int32} {n c : Nat} {σ : PS} {a1 a2 a3 : Int32} {a4 : Int64} (h : TKS T n c σ) (h1 : RK (kdS T n c) a1) (h2 : a2 = nI (toS T n c)) (h3 : kdS T n c = 2 → a3 = vaS T n c) : TKS T n (c + 1) (tkW σ c a1 a2 a3 a4) := by
  intro i hi
  rw [tkW_135, tkW_136, tkW_137]
  by_cases hc : i = c
  · subst hc; rw [gi_eq, gi_eq, gi_eq]; exact ⟨h1, h2, h3⟩
  · rw [gi_nj hc, gi_nj hc, gi_nj hc]; exact h i (by omega)
/-- what a cut changes -/
def frC (σ τ : PS) : Prop := (∀ k j, k ≠ 135 → k ≠ 136 → k ≠ 137 → (k = 132 → j ≠ 10) → gi τ k j = gi σ k j) ∧ (∀ j, gl τ 139 j = gl σ 139 j) ∧ bkO τ = bkO σ ∧ drO τ = drO σ
theorem frC.rf {σ : PS} : frC σ σ := ⟨fun _ _ _ _ _ _ => rfl, fun _ => rfl, rfl, rfl⟩
theorem frC.tk {σ τ : PS} {c : Nat} {a1 a2 a3 : Int32} {a4 : Int64} (h : frC σ τ) : frC σ (tkW τ c a1 a2 a3 a4) := by
  refine ⟨fun k j k1 k2 k3 k4 => ?_, fun j => ?_, h.2.2.1, h.2.2.2⟩
  · rw [← h.1 k j k1 k2 k3 k4]
    unfold tkW
    by_cases hk : k = 132
    · subst hk; rw [gi_nj (k4 rfl), gi_sJ, gi_ne (by decide), gi_ne (by decide), gi_ne (by decide)]
    · rw [gi_ne hk, gi_sJ, gi_ne k3, gi_ne k2, gi_ne k1]
  · rw [← h.2.1 j]
    unfold tkW
    rw [gl_sI]
    show u2 τ.2.1 138 c a4 139 j = _
    unfold u2
    rw [if_neg (by decide)]
    rfl
def cuI (T : Nat → Int32) (n c : Nat) (σ τ : PS) : Prop := frC σ τ ∧ gi τ 132 4 = nI n ∧ gi τ 132 10 = nI c ∧ txS (gi τ 134) n = T ∧ kyG τ ∧ TKS T n c τ
theorem cuI.tk {T : Nat → Int32} {n c : Nat} {σ τ : PS} {a1 a2 a3 : Int32} {a4 : Int64} (h : cuI T n c σ τ) (h1 : RK (kdS T n c) a1) (h2 : a2 = nI (toS T n c)) (h3 : kdS T n c = 2 → a3 = vaS T n c) : cuI T n (c + 1) σ (tkW τ c a1 a2 a3 a4) := by
  obtain ⟨i1, i2, i3, i4, i5, i6⟩ := h
  refine ⟨i1.tk, ?_, ?_, ?_, fun j hj => ?_, tk_push i6 h1 h2 h3⟩
  · rw [(frC.rf (σ := τ)).tk.1 132 4 (by decide) (by decide) (by decide) (by intro _; decide)]; exact i2
  · unfold tkW; rw [gi_eq]
  · have e : gi (tkW τ c a1 a2 a3 a4) 134 = gi τ 134 := by
      funext j
      exact (frC.rf (σ := τ)).tk.1 134 j (by decide) (by decide) (by decide) (by intro q; cases q)
    rw [e]; exact i4
  · rw [(frC.rf (σ := τ)).tk.2.1 j]; exact i5 j hj
def cuR (T : Nat → Int32) (n : Nat) (σ τ : PS) : Prop := frC σ τ ∧ ∃ c, c ≤ 401 ∧ TKS T n c τ ∧ (c = 401 ∨ (0 < c ∧ kdS T n (c - 1) = 0))
theorem sign9_eq {c : Nat} {σ : PS} (s : Nat) (x y : Int32) (hc : c < 403) (h : gi σ 132 10 = nI c) : ∃ a, RK (sgK x y) a ∧ fX9_sign (nI s) x y σ = some (nI (sgN x y), tkW σ c a (nI s) 0 0) := by
  have two : ∀ k, 1 ≤ k → k < 100 → fX9_sign_44 (nI s) x (nI k) σ = some (nI 2, tkW σ c (nI k) (nI s) 0 0) := by
    intro k h1 h2
    unfold fX9_sign_44 fX9_sign_148
    rw [if_neg (r_nle (k := 0) (by rfl) (by omega) (by omega)), token_eq _ _ _ _ hc h]
    simp only [Option.bind_some]
    rw [if_neg (r_nle (k := 0) (by rfl) (by omega) (by omega))]
    rfl
  have one : ∃ a, RK (sg1 x) a ∧ fX9_sign_44 (nI s) x 0 σ = some (nI 1, tkW σ c a (nI s) 0 0) := by
    unfold fX9_sign_44 fX9_sign_148
    rw [if_pos (by decide), token_eq _ _ _ _ hc h, token_eq _ _ _ _ hc h, token_eq _ _ _ _ hc h, token_eq _ _ _ _ hc h, token_eq _ _ _ _ hc h, token_eq _ _ _ _ hc h, token_eq _ _ _ _ hc h, token_eq _ _ _ _ hc h]
    simp only [Option.bind_some]
    rw [if_pos (show (0 : Int32) ≤ 0 by decide)]
    unfold sg1
    by_cases c59 : x = 59
    · subst c59; exact ⟨4, Or.inr ⟨by decide, by decide⟩, rfl⟩
    rw [if_neg c59]
    by_cases c40 : x = 40
    · subst c40; exact ⟨6, Or.inr ⟨by decide, by decide⟩, rfl⟩
    rw [if_neg c40, if_neg c40]
    by_cases c41 : x = 41
    · subst c41; exact ⟨7, Or.inr ⟨by decide, by decide⟩, rfl⟩
    rw [if_neg c41, if_neg c41]
    by_cases c43 : x = 43
    · subst c43; exact ⟨8, Or.inr ⟨by decide, by decide⟩, rfl⟩
    rw [if_neg c43]
    by_cases c45 : x = 45
    · subst c45; exact ⟨9, Or.inr ⟨by decide, by decide⟩, rfl⟩
    rw [if_neg c45]
    by_cases c42 : x = 42
    · subst c42; exact ⟨10, Or.inr ⟨by decide, by decide⟩, rfl⟩
    rw [if_neg c42, if_neg c42]
    by_cases c60 : x = 60
    · subst c60; exact ⟨13, Or.inr ⟨by decide, by decide⟩, rfl⟩
    rw [if_neg c60, if_neg c43, if_neg c45, if_neg c59, if_neg c60]
    exact ⟨3, Or.inl ⟨rfl, Or.inr rfl⟩, rfl⟩
  unfold fX9_sign sgK sgN
  by_cases h61 : y = 61
  · rw [if_pos h61, if_pos h61, if_pos h61]
    by_cases a : x = 61
    · rw [if_pos a, if_pos a, if_pos a]; exact ⟨_, Or.inr ⟨by decide, by decide⟩, two 11 (by decide) (by decide)⟩
    rw [if_neg a, if_neg a, if_neg a]
    by_cases b : x = 33
    · rw [if_pos b, if_pos b, if_pos b]; exact ⟨_, Or.inr ⟨by decide, by decide⟩, two 12 (by decide) (by decide)⟩
    rw [if_neg b, if_neg b, if_neg b]
    by_cases f : x = 60
    · rw [if_pos f, if_pos f, if_pos f]; exact ⟨_, Or.inr ⟨by decide, by decide⟩, two 14 (by decide) (by decide)⟩
    rw [if_neg f, if_neg f, if_neg f]
    exact one
  · rw [if_neg h61, if_neg h61, if_neg h61]
    exact one
theorem bl_nl {x : Int32} (h : blK x = true) : inR 97 122 x = false ∧ inR 48 57 x = false ∧ (x = 9 ∨ x = 10 ∨ x = 13 ∨ x = 32) := by
  unfold blK at h
  rw [Bool.or_eq_true, Bool.or_eq_true, Bool.or_eq_true, decide_eq_true_iff, decide_eq_true_iff, decide_eq_true_iff, decide_eq_true_iff] at h
  rcases h with rfl | rfl | rfl | rfl <;> exact ⟨by decide, by decide, by decide⟩
