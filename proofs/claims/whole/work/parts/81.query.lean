/-! the questions -/
theorem wk_then {n a c b f s k : Nat} {l : List RU} {σ : PS} (h : IV n a c b f s l σ) (hk : k ≤ f) {K : PS → Option (Int32 × PS)} {Q : Int32 × PS → Prop} (i : ∀ τ : PS, IV n a c b f s l τ → (∀ d, d < 60 → CT τ a c d (rodS (lnd τ) l (shX τ k) a c (d + 1))) → kF σ τ → hO (K τ) Q) : hO ((fX1_walk (bkO σ) (nI k) σ).bind K) Q := (walk_ok h hk).then (fun τ ht => i τ ht.1 ht.2.1 ht.2.2)
theorem gs_then {n a c b f s k : Nat} {l : List RU} {σ : PS} (h : IV n a c b f s l σ) (hk : k ≤ f) {K : PS → Option (Int32 × PS)} {Q : Int32 × PS → Prop} (i : ∀ τ : PS, IV n a c b f s l τ → (∀ d, d < 60 → RT τ a c d (rodS (lnd σ) l (shX σ k) a c (d + 1))) → gF σ τ → hO (K τ) Q) : hO ((fX9_goes (nI k) σ).bind K) Q := by
  refine (goes_ok h hk).then (fun τ ht => i τ ht.1 ?_ ht.2.2)
  intro d hd
  have t3 := ht.2.2
  have tl : lnd τ = lnd σ := lnd_fr (fun k j _ _ => t3 k j (by omega) (by omega))
  have tsh : shX τ k = shX σ k := shX_fr (fun j _ => ⟨t3 _ _ (by decide) (by omega), t3 _ _ (by decide) (by omega), t3 _ _ (by decide) (by omega)⟩)
  rw [← tl, ← tsh]
  exact ht.2.1 d hd
theorem IV.inv {n a c b f s : Nat} {l : List RU} {σ : PS} (h : IV n a c b f s l σ) : Inv σ := ⟨n, a, c, b, f, s, l, h⟩
/-- what a state's question asks of a day -/
def stS (q : Nat) (D : TB) (c : Nat) : Int32 := if q = 0 then D 0 c else if q = 1 then D 1 c else if q = 2 then D 2 c else if q = 3 then D 3 c else if q = 4 then D 4 c else if q = 5 then (if D 0 c = -1 then 0 else if D 1 c = -1 then 1 else 0) else D 5 c
theorem op_state (x1 x2 x3 x4 : Int32) : OPS (fX8_state x1 x2 x3 x4) (fX9_state x1 x2 x3 x4) := by
  rintro σ ⟨n, a, c, b, f, s, l, h⟩
  have hI : Inv σ := h.inv
  have hB := h.2.2.2.2.1.1
  have cnt : ∀ τ, IV n a c b f s l τ → gi τ 3 6 = nI c ∧ gi τ 132 44 = nI c ∧ gi τ 25 0 = nI f ∧ gi τ 132 54 = nI f := fun τ h => ⟨h.2.2.1.1.2.2.2.1, h.2.2.1.2.1.1.2.trans h.2.2.1.1.2.2.2.1, h.2.2.2.1.2.1, h.2.2.2.1.2.2.1⟩
  have hc6 := h.2.2.1.1.2.1
  have hf3 := h.2.2.2.1.1
  obtain ⟨k1, k2, k3, k4⟩ := cnt σ h
  have mc : ∀ τ : PS, gi τ 132 44 = nI c → fX9_isCaravan x1 τ = some (tv (0 ≤ x1 ∧ x1 ≤ nI c - 1), τ) := fun τ ht => by rw [mCar_eq x1 τ ht (by omega), ht]
  unfold fX8_state
  rw [hasCaravan_eq, k1]
  simp only [Option.bind_some]
  rw [ite_tv]
  by_cases q1 : 0 ≤ x1 ∧ x1 ≤ nI c - 1
  rotate_left
  · rw [if_neg q1]
    refine hO_pr rfl ?_
    unfold fX9_state
    rw [mc σ k2]
    simp only [Option.bind_some]
    rw [ite_tv, if_neg q1]
    exact ⟨_, rfl, rfl, hI⟩
  rw [if_pos q1, isDay_eq]
  simp only [Option.bind_some]
  rw [ite_tv]
  by_cases q2 : 0 ≤ x2 ∧ x2 ≤ 59
  rotate_left
  · rw [if_neg q2]
    refine hO_pr rfl ?_
    unfold fX9_state
    rw [mc σ k2]
    simp only [Option.bind_some]
    rw [ite_tv, if_pos q1, mDay_eq]
    simp only [Option.bind_some]
    rw [ite_tv, if_neg q2]
    exact ⟨_, rfl, rfl, hI⟩
  rw [if_pos q2, isKnown_eq, k3]
  simp only [Option.bind_some]
  rw [ite_tv]
  by_cases q3 : 0 ≤ x3 ∧ x3 ≤ nI f
  rotate_left
  · rw [if_neg q3]
    refine hO_pr rfl ?_
    unfold fX9_state
    rw [mc σ k2]
    simp only [Option.bind_some]
    rw [ite_tv, if_pos q1, mDay_eq]
    simp only [Option.bind_some]
    rw [ite_tv, if_pos q2, mKnown_eq, k4]
    simp only [Option.bind_some]
    rw [ite_tv, if_neg q3]
    exact ⟨_, rfl, rfl, hI⟩
  rw [if_pos q3, gd_t hB]
  obtain ⟨y, rfl, hy⟩ := (isN_lt (by omega)).mp q1
  obtain ⟨d, rfl, -, hd⟩ := (isN_of (l := 0) (h := 59) (lo := 0) (hi := 59) rfl rfl (by decide) (by decide)).mp q2
  obtain ⟨k, rfl, -, hk⟩ := (isN_of (l := 0) (lo := 0) (hi := f) rfl rfl (by decide) (by omega)).mp q3
  have g6 : inb (nI y) 6 = true := inb_nI (by omega) (by decide)
  have g60 : inb (nI d) 60 = true := inb_nI (by omega) (by decide)
  refine wk_then h hk (fun τ hτ hCT hkF => ?_)
  obtain ⟨-, t2, -, t4⟩ := cnt τ hτ
  obtain ⟨w0, w1, w2, w3, w4, w5, w6⟩ := (hCT d (by omega)).1 y hy
  generalize hD : rodS (lnd τ) l (shX τ k) a c (d + 1) = D at w0 w1 w2 w3 w4 w5 w6
  have ref : ∀ r : Int32, ((0 ≤ x4 ∧ x4 ≤ 6) → ∃ q, q ≤ 6 ∧ x4 = nI q ∧ r = stS q D y) → (¬ (0 ≤ x4 ∧ x4 ≤ 6) → r = -1000000) → hO (fX9_state (nI y) (nI d) (nI k) x4 τ) (fun q => r = q.1 ∧ Inv q.2) := by
    intro r r1 r0
    unfold fX9_state
    rw [mc τ t2]
    simp only [Option.bind_some]
    rw [ite_tv, if_pos q1, mDay_eq]
    simp only [Option.bind_some]
    rw [ite_tv, if_pos q2, mKnown_eq, t4]
    simp only [Option.bind_some]
    rw [ite_tv, if_pos q3]
    by_cases q4 : 0 ≤ x4 ∧ x4 ≤ 6
    rotate_left
    · rw [rn2_neg q4]
      exact ⟨_, rfl, r0 q4, hτ.inv⟩
    rw [rn2_pos q4]
    obtain ⟨q, hq, rfl, hr⟩ := r1 q4
    refine gs_then hτ hk (fun υ hυ hRT hgF => ?_)
    obtain ⟨v0, v1, v2, v3, v4, v5, v6⟩ := (hRT d (by omega)).1 y hy
    rw [hD] at v0 v1 v2 v3 v4 v5 v6
    unfold fX9_isOutside
    rw [nI60]
    simp only [gd_t (inb_nI (show 60 * y + d < 360 by omega) (show 360 < 2 ^ 31 by decide)), nI_clamp (n := 60 * y + d) (show 60 * y + d < 2 ^ 31 by omega)]
    rw [v0, v1, v2, v3, v4, v5, hr]
    unfold stS
    have : q = 0 ∨ q = 1 ∨ q = 2 ∨ q = 3 ∨ q = 4 ∨ q = 5 ∨ q = 6 := by omega
    rcases this with rfl | rfl | rfl | rfl | rfl | rfl | rfl
    · rw [if_pos (show nI 0 = 0 from rfl)]; exact ⟨_, rfl, rfl, hυ.inv⟩
    · rw [if_neg (show ¬ nI 1 = 0 by decide), if_pos (show nI 1 = 1 from rfl)]; exact ⟨_, rfl, rfl, hυ.inv⟩
    · rw [if_neg (show ¬ nI 2 = 0 by decide), if_neg (show ¬ nI 2 = 1 by decide), if_pos (show nI 2 = 2 from rfl)]; exact ⟨_, rfl, rfl, hυ.inv⟩
    · rw [if_neg (show ¬ nI 3 = 0 by decide), if_neg (show ¬ nI 3 = 1 by decide), if_neg (show ¬ nI 3 = 2 by decide), if_pos (show nI 3 = 3 from rfl)]; exact ⟨_, rfl, rfl, hυ.inv⟩
    · rw [if_neg (show ¬ nI 4 = 0 by decide), if_neg (show ¬ nI 4 = 1 by decide), if_neg (show ¬ nI 4 = 2 by decide), if_neg (show ¬ nI 4 = 3 by decide), if_pos (show nI 4 = 4 from rfl)]; exact ⟨_, rfl, rfl, hυ.inv⟩
    · rw [if_neg (show ¬ nI 5 = 0 by decide), if_neg (show ¬ nI 5 = 1 by decide), if_neg (show ¬ nI 5 = 2 by decide), if_neg (show ¬ nI 5 = 3 by decide), if_neg (show ¬ nI 5 = 4 by decide), if_pos (show nI 5 = 5 from rfl)]
      by_cases z0 : D 0 y = -1
      · rw [if_pos z0]
        exact ⟨_, rfl, by simp [z0], hυ.inv⟩
      · rw [if_neg z0]
        by_cases z1 : D 1 y = -1
        · rw [if_pos z1]
          exact ⟨_, rfl, by simp [z0, z1], hυ.inv⟩
        · rw [if_neg z1]
          exact ⟨_, rfl, by simp [z0, z1], hυ.inv⟩
    · rw [if_neg (show ¬ nI 6 = 0 by decide), if_neg (show ¬ nI 6 = 1 by decide), if_neg (show ¬ nI 6 = 2 by decide), if_neg (show ¬ nI 6 = 3 by decide), if_neg (show ¬ nI 6 = 4 by decide), if_neg (show ¬ nI 6 = 5 by decide)]; exact ⟨_, rfl, rfl, hυ.inv⟩
  unfold fX1_isOutside
  simp only [gd_t g6, gd_t g60, nI_clamp (n := d) (show d < 2 ^ 31 by omega), r43 (i := y) (show y < 2 ^ 31 by omega), r50 (i := y) (show y < 2 ^ 31 by omega), r57 (i := y) (show y < 2 ^ 31 by omega), r64 (i := y) (show y < 2 ^ 31 by omega), r71 (i := y) (show y < 2 ^ 31 by omega), r78 (i := y) (show y < 2 ^ 31 by omega)]
  rw [w0, w1, w2, w3, w4, w5]
  by_cases q4 : 0 ≤ x4 ∧ x4 ≤ 6
  · obtain ⟨q, rfl, -, hq⟩ := (isN_of (l := 0) (h := 6) (lo := 0) (hi := 6) rfl rfl (by decide) (by decide)).mp q4
    have go : ∀ r, r = stS q D y → hO (fX9_state (nI y) (nI d) (nI k) (nI q) τ) (fun p => r = p.1 ∧ Inv p.2) := fun r hr => ref r (fun _ => ⟨q, hq, rfl, hr⟩) (fun hn => absurd q4 hn)
    have : q = 0 ∨ q = 1 ∨ q = 2 ∨ q = 3 ∨ q = 4 ∨ q = 5 ∨ q = 6 := by omega
    rcases this with rfl | rfl | rfl | rfl | rfl | rfl | rfl
    · rw [if_pos (show nI 0 = 0 from rfl)]; exact hO_pr rfl (go _ rfl)
    · rw [if_neg (show ¬ nI 1 = 0 by decide), if_pos (show nI 1 = 1 from rfl)]; exact hO_pr rfl (go _ rfl)
    · rw [if_neg (show ¬ nI 2 = 0 by decide), if_neg (show ¬ nI 2 = 1 by decide), if_pos (show nI 2 = 2 from rfl)]; exact hO_pr rfl (go _ rfl)
    · rw [if_neg (show ¬ nI 3 = 0 by decide), if_neg (show ¬ nI 3 = 1 by decide), if_neg (show ¬ nI 3 = 2 by decide), if_pos (show nI 3 = 3 from rfl)]; exact hO_pr rfl (go _ rfl)
    · rw [if_neg (show ¬ nI 4 = 0 by decide), if_neg (show ¬ nI 4 = 1 by decide), if_neg (show ¬ nI 4 = 2 by decide), if_neg (show ¬ nI 4 = 3 by decide), if_pos (show nI 4 = 4 from rfl)]; exact hO_pr rfl (go _ rfl)
    · rw [if_neg (show ¬ nI 5 = 0 by decide), if_neg (show ¬ nI 5 = 1 by decide), if_neg (show ¬ nI 5 = 2 by decide), if_neg (show ¬ nI 5 = 3 by decide), if_neg (show ¬ nI 5 = 4 by decide), if_pos (show nI 5 = 5 from rfl)]
      by_cases z0 : D 0 y = -1
      · rw [if_pos z0]; exact hO_pr rfl (go _ (by unfold stS; simp [z0]))
      · rw [if_neg z0]
        by_cases z1 : D 1 y = -1
        · rw [if_pos z1]; exact hO_pr rfl (go _ (by unfold stS; simp [z0, z1]))
        · rw [if_neg z1]; exact hO_pr rfl (go _ (by unfold stS; simp [z0, z1]))
    · rw [if_neg (show ¬ nI 6 = 0 by decide), if_neg (show ¬ nI 6 = 1 by decide), if_neg (show ¬ nI 6 = 2 by decide), if_neg (show ¬ nI 6 = 3 by decide), if_neg (show ¬ nI 6 = 4 by decide), if_neg (show ¬ nI 6 = 5 by decide), if_pos (show nI 6 = 6 from rfl)]; exact hO_pr rfl (go _ rfl)
  · have ne : ∀ z : Int32, 0 ≤ z ∧ z ≤ 6 → ¬ x4 = z := fun z hz e => q4 (by rw [e]; exact hz)
    rw [if_neg (ne 0 (by decide)), if_neg (ne 1 (by decide)), if_neg (ne 2 (by decide)), if_neg (ne 3 (by decide)), if_neg (ne 4 (by decide)), if_neg (ne 5 (by decide)), if_neg (ne 6 (by decide))]
    exact hO_pr rfl (ref _ (fun hn => absurd hn q4) (fun _ => rfl))
