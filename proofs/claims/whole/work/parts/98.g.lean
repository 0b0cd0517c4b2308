/-! the reference's reader: small steps -/
def TKN (K P : Nat → Nat) (V : Nat → Int32) (σ : PS) : Prop := ∀ i, i ≤ 400 → (∀ j, j < i → K j ≠ 0) → RK (K i) (gi σ 135 i) ∧ gi σ 136 i = nI (P i) ∧ (K i = 2 → gi σ 137 i = V i)
def frR (ok : Nat → Nat → Prop) (σ τ : PS) : Prop := (∀ k j, ¬ ok k j → gi τ k j = gi σ k j) ∧ (∀ k j, gl τ k j = gl σ k j) ∧ bkO τ = bkO σ ∧ drO τ = drO σ
theorem frR.rf {ok : Nat → Nat → Prop} {σ : PS} : frR ok σ σ := ⟨fun _ _ _ => rfl, fun _ _ => rfl, rfl, rfl⟩
theorem frR.tr {ok : Nat → Nat → Prop} {σ τ υ : PS} (h : frR ok σ τ) (g : frR ok τ υ) : frR ok σ υ := ⟨fun k j a => (g.1 k j a).trans (h.1 k j a), fun k j => (g.2.1 k j).trans (h.2.1 k j), g.2.2.1.trans h.2.2.1, g.2.2.2.trans h.2.2.2⟩
theorem frR.i {ok : Nat → Nat → Prop} {σ τ : PS} {k j : Nat} {x : Int32} (h : frR ok σ τ) (hk : ok k j) : frR ok σ (sI τ k j x) := by
  refine ⟨fun a i q => ?_, fun a i => by rw [gl_sI]; exact h.2.1 a i, h.2.2⟩
  rw [← h.1 a i q, gi_sI]
  by_cases z : a = k
  · rw [if_pos z, if_neg (fun y => q (by rw [z, y]; exact hk))]
  · rw [if_neg z]
theorem frR.mono {ok ok' : Nat → Nat → Prop} {σ τ : PS} (h : frR ok σ τ) (hk : ∀ k j, ok k j → ok' k j) : frR ok' σ τ := ⟨fun k j q => h.1 k j (fun z => q (hk k j z)), h.2⟩
def okO (d l : Nat) (k j : Nat) : Prop := (k = 132 ∧ (j = 33 ∨ j = 37)) ∨ ((k = 153 ∨ k = 154) ∧ d ≤ j ∧ j < d + l)
def okE (s c : Nat) (k j : Nat) : Prop := (k = 132 ∧ (j = 11 ∨ j = 12 ∨ j = 13 ∨ j = 14 ∨ j = 33 ∨ j = 37)) ∨ ((k = 153 ∨ k = 154) ∧ 500 * s + c ≤ j ∧ j < 500 * s + 500) ∨ k = 155
theorem rkF_in : ∀ k, k < 27 → ∀ j, j < 27 → k ≠ 1 → j ≠ 1 → rkF k = rkF j → k = j := by decide +kernel
theorem rkF_1 : ∀ j, j < 27 → j ≠ 1 → rkF j ≠ 1 ∧ rkF j ≠ 3 := by decide +kernel
theorem rkF_lt : ∀ j, j < 27 → rkF j < 40 := by decide +kernel
theorem is_no {x : Int32} {f : Nat} {σ : PS} (h : gi σ 132 13 = nI f) (hf : f ≠ 0) (hf2 : f ≤ 2) : fX9_is x σ = some (0, σ) := by
  unfold fX9_is
  rw [h, if_neg (e_ne (k := 0) (by rfl) hf (by omega) (by decide))]
theorem fail_no {x : Int32} {f : Nat} {σ : PS} (h : gi σ 132 13 = nI f) (hf : f ≠ 0) (hf2 : f ≤ 2) : fX9_fail x σ = some σ := by
  unfold fX9_fail
  rw [h, if_neg (r_nle (k := 0) (by rfl) (by omega) (by omega))]
theorem must_no {x : Int32} {f : Nat} {σ : PS} (h : gi σ 132 13 = nI f) (hf : f ≠ 0) (hf2 : f ≤ 2) : fX9_must x σ = some σ := by
  unfold fX9_must
  rw [is_no h hf hf2]
  simp only [Option.bind_some]
  rw [if_pos trivial, fail_no h hf hf2]
  rfl
theorem sI_same (σ : PS) (k j : Nat) : sI σ k j (gi σ k j) = σ := by
  have h : u2 σ.1 k j (σ.1 k j) = σ.1 := by
    funext a i
    show (if a = k then (if i = j then σ.1 k j else σ.1 a i) else σ.1 a i) = σ.1 a i
    by_cases h1 : a = k
    · rw [if_pos h1]
      by_cases h2 : i = j
      · rw [if_pos h2, h1, h2]
      · rw [if_neg h2]
    · rw [if_neg h1]
  show (u2 σ.1 k j (σ.1 k j), σ.2) = σ
  rw [h]
theorem next_no {f t : Nat} {σ : PS} (h : gi σ 132 13 = nI f) (hf : f ≠ 0) (hf2 : f ≤ 2) (ht : t ≤ 400) (h1 : gi σ 132 11 = nI t) : ∃ u, u ≤ 400 ∧ fX9_next σ = some (sI σ 132 11 (nI u)) := by
  unfold fX9_next
  rw [h1]
  by_cases h4 : t = 400
  · rw [if_pos (by rw [h4]; rfl), fail_no h hf hf2]
    refine ⟨400, by decide, ?_⟩
    show some σ = _
    rw [show nI 400 = gi σ 132 11 by rw [h1, h4], sI_same]
  · rw [if_neg (e_ne (k := 400) (by rfl) h4 (by omega) (by decide)), nI_1]
    exact ⟨t + 1, by omega, rfl⟩
theorem fail_eq {x : Int32} {t p : Nat} {σ : PS} (h : gi σ 132 13 = 0) (ht : t ≤ 400) (h1 : gi σ 132 11 = nI t) (hp : gi σ 136 t = nI p) : fX9_fail x σ = some (sI (sI σ 132 13 x) 132 14 (nI p)) := by
  unfold fX9_fail
  rw [h, if_pos (by decide), gi_nj (by decide), h1, gd_t (inb_nI (by omega) (by decide)), nI_clamp (by omega), gi_ne (by decide), hp]
theorem next_go {t : Nat} {σ : PS} (ht : t < 400) (h1 : gi σ 132 11 = nI t) : fX9_next σ = some (sI σ 132 11 (nI (t + 1))) := by
  unfold fX9_next
  rw [h1, if_neg (e_ne (k := 400) (by rfl) (by omega) (by omega) (by decide)), nI_1]
theorem next_end {p : Nat} {σ : PS} (h : gi σ 132 13 = 0) (h1 : gi σ 132 11 = nI 400) (hp : gi σ 136 400 = nI p) : fX9_next σ = some (sI (sI σ 132 13 2) 132 14 (nI p)) := by
  unfold fX9_next
  rw [h1, if_pos (by rfl), fail_eq h (by decide) h1 hp]
  rfl
theorem is_eq {x : Int32} {j k t : Nat} {σ : PS} (hx : x = nI (rkF j)) (hj : j < 27) (hj1 : j ≠ 1) (hk : k ≤ 26) (h : gi σ 132 13 = 0) (ht : t ≤ 400) (h1 : gi σ 132 11 = nI t) (hr : RK k (gi σ 135 t)) : fX9_is x σ = some (tb (decide (k = j)), σ) := by
  unfold fX9_is
  rw [h, if_pos rfl, h1, gd_t (inb_nI (by omega) (by decide)), nI_clamp (by omega)]
  have key : gi σ 135 t = x ↔ k = j := by
    rcases hr with ⟨k1, hr⟩ | ⟨k1, hr⟩
    · have h13 := rkF_1 j hj hj1
      have hl := rkF_lt j hj
      constructor
      · intro z
        rcases hr with hr | hr
        · rw [hr, hx] at z; exact absurd (nIeq_lit (a := 1) z (by decide) (by omega)).symm h13.1
        · rw [hr, hx] at z; exact absurd (nIeq_lit (a := 3) z (by decide) (by omega)).symm h13.2
      · intro z; omega
    · have hl := rkF_lt j hj
      have hl2 := rkF_lt k (by omega)
      rw [hr, hx]
      constructor
      · intro z; exact rkF_in k (by omega) j hj k1 hj1 (nIeq_lit z (by omega) (by omega))
      · intro z; rw [z]
  by_cases hkj : k = j
  · rw [if_pos (key.mpr hkj), decide_eq_true hkj]; rfl
  · rw [if_neg (fun z => hkj (key.mp z)), decide_eq_false hkj]; rfl
theorem emit_eq {d : Nat} {σ : PS} (x y : Int32) (hd : d < 1000) (h : gi σ 132 33 = nI d) : fX9_emit x y σ = some (sI (sI (sI σ 153 d x) 154 d y) 132 33 (nI (d + 1))) := by
  unfold fX9_emit
  simp (disch := omega) only [gi_ne]
  rw [h, gd_t (inb_nI hd (by decide)), gd_t (inb_nI hd (by decide)), nI_clamp (by omega), nI_1]
def wM (k : Nat) : Int32 := nI (rkF k)
theorem out_ok {r : Nat} {x1 : Int32} (hx : (x1 = 0 ∧ r = 1) ∨ (x1 = 1 ∧ r = 2)) : ∀ (wt : List Nat) (m d w : Nat) (σ : PS), okW w wt → wt.length ≤ 48 → d + wt.length ≤ 1000 → gi σ 132 37 = nI wt.length → stk (gi σ 155) (wt.map wM) → gi σ 132 33 = nI d → hO (fX9_comesOut_0 (m + wt.length + 1) x1 σ) (fun τ => frR (okO d wt.length) σ τ ∧ gi τ 132 37 = nI (rlR r wt).length ∧ gi τ 132 33 = nI (d + (rlE r wt).length) ∧ sgM (gi τ 153) (gi τ 154) d (rlE r wt) ∧ stk (gi τ 155) ((rlR r wt).map wM)) := by
  intro wt
  induction wt with
  | nil =>
    intro m d w σ ho hl hd h7 h5 h3
    rw [fX9_comesOut_0, h7, if_pos (show nI ([] : List Nat).length ≤ 0 by decide)]
    exact ⟨σ, rfl, frR.rf, h7, h3, trivial, trivial⟩
  | cons k wt ih =>
    intro m d w σ ho hl hd h7 h5 h3
    simp only [List.length_cons] at hl hd h7
    simp only [List.map_cons, stk, List.length_map] at h5
    simp only [okW] at ho
    rw [show m + (k :: wt).length + 1 = (m + wt.length + 1) + 1 by simp only [List.length_cons]; omega, fX9_comesOut_0, h7, if_neg (r_nle (k := 0) (by rfl) (by omega) (by omega)), show nI (wt.length + 1) - 1 = nI wt.length from nI_pred _, gd_t (inb_nI (by omega) (by decide)), gd_t (inb_nI (by omega) (by decide)), nI_clamp (by omega), h5.1]
    simp only [rlR, rlE]
    have stop : ∀ τ, τ = σ → frR (okO d (k :: wt).length) σ τ ∧ gi τ 132 37 = nI (k :: wt).length ∧ gi τ 132 33 = nI (d + ([] : List IT).length) ∧ sgM (gi τ 153) (gi τ 154) d [] ∧ stk (gi τ 155) ((k :: wt).map wM) := by
      intro τ e
      subst e
      refine ⟨frR.rf, h7, h3, trivial, ?_⟩
      simp only [List.map_cons, stk, List.length_map]
      exact h5
    by_cases hk : k = 25
    · rw [if_pos hk, if_pos hk, if_pos (by rw [hk]; rfl)]
      exact ⟨σ, rfl, stop σ rfl⟩
    · rw [if_neg hk] at ho
      rw [if_neg hk, if_neg hk]
      obtain ⟨⟨k1, k2⟩, k3, k4⟩ := ho
      have h6 : ¬ wM k = 6 := by
        have : k = 18 ∨ k = 19 ∨ k = 20 := by omega
        rcases this with rfl | rfl | rfl <;> decide
      rw [if_neg h6]
      have go : ∀ r', r' = r → ¬ rkW k < r' → hO (fX9_comesOut_43 (fX9_comesOut_0 (m + wt.length + 1)) x1 σ) (fun τ => frR (okO d (k :: wt).length) σ τ ∧ gi τ 132 37 = nI (rlR r wt).length ∧ gi τ 132 33 = nI (d + ((k - 16, (0 : Int32)) :: rlE r wt).length) ∧ sgM (gi τ 153) (gi τ 154) d ((k - 16, 0) :: rlE r wt) ∧ stk (gi τ 155) ((rlR r wt).map wM)) := by
        intro r' _ _
        have e : fX9_comesOut_43 (fX9_comesOut_0 (m + wt.length + 1)) x1 σ = fX9_comesOut_0 (m + wt.length + 1) x1 (sI (sI (sI (sI σ 132 37 (nI wt.length)) 153 d (nI (k - 16))) 154 d 0) 132 33 (nI (d + 1))) := by
          unfold fX9_comesOut_43
          rw [h7, show nI (wt.length + 1) - 1 = nI wt.length from nI_pred _, gi_eq, gd_t (inb_nI (by omega) (by decide)), nI_clamp (by omega), gi_ne (by decide), h5.1]
          unfold fX9_comesOut_85
          have em : ∀ x, fX9_emit x 0 (sI σ 132 37 (nI wt.length)) = _ := fun x => emit_eq x 0 (by omega) (show _ = nI d by rw [gi_nj (by decide)]; exact h3)
          rw [em, em, em]
          simp only [Option.bind_some]
          have : k = 18 ∨ k = 19 ∨ k = 20 := by omega
          rcases this with rfl | rfl | rfl
          · rw [if_pos (show wM 18 = 8 by decide)]; rfl
          · rw [if_neg (show ¬ wM 19 = 8 by decide), if_pos (show wM 19 = 9 by decide)]; rfl
          · rw [if_neg (show ¬ wM 20 = 8 by decide), if_neg (show ¬ wM 20 = 9 by decide)]; rfl
        rw [e]
        refine (ih m (d + 1) (rkW k) _ k4 (by omega) (by omega) ?_ ?_ gi_eq).mono (fun τ ⟨f1, f2, f3, f4, f5⟩ => ?_)
        · rw [gi_nj (by decide), gi_ne (by decide), gi_ne (by decide), gi_eq]
        · refine stk_congr (fun j _ => ?_) h5.2
          rw [gi_ne (by decide), gi_ne (by decide), gi_ne (by decide), gi_ne (by decide)]
        · refine ⟨?_, f2, ?_, ⟨?_, ?_, f4⟩, f5⟩
          · refine frR.tr (τ := sI (sI (sI (sI σ 132 37 (nI wt.length)) 153 d (nI (k - 16))) 154 d 0) 132 33 (nI (d + 1))) ?_ (f1.mono (fun a j q => ?_))
            · refine (((frR.rf.i ?_).i ?_).i ?_).i ?_
              · exact Or.inl ⟨rfl, Or.inr rfl⟩
              · exact Or.inr ⟨Or.inl rfl, by simp⟩
              · exact Or.inr ⟨Or.inr rfl, by simp⟩
              · exact Or.inl ⟨rfl, Or.inl rfl⟩
            · rcases q with q | ⟨q1, q2, q3⟩
              · exact Or.inl q
              · exact Or.inr ⟨q1, by omega, by simp only [List.length_cons]; omega⟩
          · rw [f3, List.length_cons, Nat.add_assoc, Nat.add_comm 1]
          · rw [f1.1 153 d (by unfold okO; omega), gi_ne (by decide), gi_ne (by decide), gi_eq]
          · rw [f1.1 154 d (by unfold okO; omega), gi_ne (by decide), gi_eq]
      rcases hx with ⟨x0, r1⟩ | ⟨x0, r2⟩
      · have hn : ¬ rkW k < r := by rw [r1]; have := (rkW_2 k).1; omega
        rw [if_pos x0, if_neg hn, if_neg hn]
        exact go r rfl hn
      · rw [if_neg (by rw [x0]; decide)]
        by_cases k20 : k = 20
        · have hn : ¬ rkW k < r := by rw [r2, k20]; decide
          rw [if_pos (by rw [k20]; rfl), if_neg hn, if_neg hn]
          exact go r rfl hn
        · have hn : rkW k < r := by
            have : k = 18 ∨ k = 19 := by omega
            rw [r2]
            rcases this with rfl | rfl <;> decide
          have h10 : ¬ wM k = 10 := by
            have : k = 18 ∨ k = 19 := by omega
            rcases this with rfl | rfl <;> decide
          rw [if_neg h10, if_pos hn, if_pos hn]
          exact ⟨σ, rfl, stop σ rfl⟩
theorem out_all {r : Nat} {x1 : Int32} (hx : (x1 = 0 ∧ r = 1) ∨ (x1 = 1 ∧ r = 2)) {wt : List Nat} {d w : Nat} {σ : PS} (ho : okW w wt) (hl : wt.length ≤ 48) (hd : d + wt.length ≤ 1000) (h7 : gi σ 132 37 = nI wt.length) (h5 : stk (gi σ 155) (wt.map wM)) (h3 : gi σ 132 33 = nI d) : hO (fX9_comesOut x1 σ) (fun τ => frR (okO d wt.length) σ τ ∧ gi τ 132 37 = nI (rlR r wt).length ∧ gi τ 132 33 = nI (d + (rlE r wt).length) ∧ sgM (gi τ 153) (gi τ 154) d (rlE r wt) ∧ stk (gi τ 155) ((rlR r wt).map wM)) := by
  unfold fX9_comesOut
  obtain ⟨m, hm⟩ := FU_k (wt.length + 1) (by omega)
  rw [hm, show m + (wt.length + 1) = m + wt.length + 1 by omega]
  exact out_ok hx wt m d w σ ho hl hd h7 h5 h3
