/-! the reference's evening -/
theorem ev71_ok {c x1 d M : Nat} {r5 : Int32 → Int32 → Int32 → Int32 → PS → Option PS} {Q : PS → Prop} (hc : c < 6) (rk : Nat → Int32) : ∀ (B A : List Nat) (m : Nat) (σ : PS), stA (gi σ 189) (B.length + 1) (A.map nI) → stk (gi σ 189) (B.map nI) → (∀ x ∈ B, x < 6 ∧ gi σ 192 x = rk x) → gi σ 192 c = rk c → A.length + B.length < 6 → (∀ τ : PS, (∀ k j, k ≠ 189 → gi τ k j = gi σ k j) → stk (gi τ 189) ((A ++ insR rk c B).map nI) → hO (r5 (nI x1) (nI d) (nI (M + 1)) (nI (c + 1)) τ) Q) → hO (fX9_evening_71 r5 (m + B.length + 1) (nI x1) (nI d) (nI M) (nI c) (nI B.length) σ) Q := by
  intro B
  have fin : ∀ (B A : List Nat) (σ : PS), stA (gi σ 189) (B.length + 1) (A.map nI) → stk (gi σ 189) (B.map nI) → A.length + B.length < 6 → (∀ τ : PS, (∀ k j, k ≠ 189 → gi τ k j = gi σ k j) → stk (gi τ 189) ((A ++ c :: B).map nI) → hO (r5 (nI x1) (nI d) (nI (M + 1)) (nI (c + 1)) τ) Q) → hO (fX9_evening_122 r5 (nI x1) (nI d) (nI M) (nI c) (nI B.length) σ) Q := by
    intro B A σ h1 h3 hl hk
    unfold fX9_evening_122 fX9_evening_134
    rw [gd_t (inb_nI (by omega) (by decide)), nI_clamp (by omega), nI_1, nI_1]
    refine hk _ (fun k j h => gi_ne h) ?_
    rw [List.map_append, stk_app]
    refine ⟨stA_congr (fun j a b => ?_) (by simpa using h1), ?_, stk_congr (fun j a => ?_) h3⟩
    · simp only [List.length_map, List.length_cons] at a b
      rw [gi_nj (by omega)]
    · rw [List.length_map, gi_eq]
    · rw [List.length_map] at a
      rw [gi_nj (by omega)]
  induction B with
  | nil =>
    intro A m σ h1 h3 hB h192 hl hk
    rw [fX9_evening_71, if_pos (show nI ([] : List Nat).length ≤ 0 by decide)]
    exact fin [] A σ h1 h3 hl hk
  | cons x B ih =>
    intro A m σ h1 h3 hB h192 hl hk
    simp only [List.length_cons] at hl h1
    have hx := hB x List.mem_cons_self
    have h3' := h3
    simp only [List.map_cons, stk, List.length_map] at h3
    rw [List.length_cons, show m + (B.length + 1) + 1 = (m + B.length + 1) + 1 by omega, fX9_evening_71, if_neg (nI_nle (by omega) (by omega)), nI_pred]
    simp only [gd_t (inb_nI (show B.length < 6 by omega) (show 6 < 2 ^ 31 by decide)), gd_t (inb_nI (show B.length + 1 < 6 by omega) (show 6 < 2 ^ 31 by decide)), gd_t (inb_nI hc (show 6 < 2 ^ 31 by decide))]
    rw [nI_clamp (show B.length < 2 ^ 31 by omega), h3.1, gd_t (inb_nI hx.1 (by decide)), nI_clamp (show x < 2 ^ 31 by omega), nI_clamp (show c < 2 ^ 31 by omega), hx.2, h192]
    rw [insR] at hk
    by_cases hr : rk c ≤ rk x
    · rw [if_pos hr]
      rw [if_pos hr] at hk
      exact fin (x :: B) A σ h1 h3' (by simp only [List.length_cons]; omega) hk
    · rw [if_neg hr]
      rw [if_neg hr] at hk
      rw [nI_clamp (show B.length + 1 < 2 ^ 31 by omega), show nI (B.length + 1) + (-1) = nI B.length from nI_a1 (by omega)]
      refine ih (A ++ [x]) m _ ?_ ?_ (fun y hy => ?_) (by rw [gi_ne (by decide)]; exact h192) (by simp only [List.length_append, List.length_cons, List.length_nil]; omega) (fun τ t1 t2 => hk τ (fun k j h => by rw [t1 k j h, gi_ne h]) ?_)
      · rw [List.map_append]
        refine stA_snoc (stA_congr (fun j a b => ?_) h1) ?_
        · rw [gi_nj (by omega)]
        · rw [gi_eq]
      · refine stk_congr (fun j a => ?_) h3.2
        rw [List.length_map] at a
        rw [gi_nj (by omega)]
      · rw [gi_ne (by decide)]
        exact hB y (List.mem_cons_of_mem _ hy)
      · rw [show A ++ x :: insR rk c B = (A ++ [x]) ++ insR rk c B by simp]
        exact t2
/-- what an inn's evening may change while its guests are put in order -/
def oF (σ τ : PS) : Prop := ∀ k j, k ≠ 187 → k ≠ 188 → k ≠ 189 → k ≠ 192 → k ≠ 177 → gi τ k j = gi σ k j
theorem ev5_ok {e : TB} {l : List RU} {s : Nat} {sh : Nat → Nat → Bool} {i d na nc : Nat} {D : TB} (hz : ∀ r ∈ l, r.1 = 0 → r.2.1 = 0) (hL : LE e na nc) (hi : i < na) (hd : d < 60) (hF : ∀ c, c < nc → D 0 c = nI i → D 5 c = sayS l 0 0 (vrS e c (D 2 c) (D 3 c) d (nI i))) {Q : PS → Prop} : ∀ (q m c : Nat) (σ : PS), c + q = nc → ME e l s sh σ → (∀ c', c' < nc → gi σ 182 c' = D 0 c' ∧ gi σ 183 c' = D 2 c' ∧ gi σ 184 c' = D 3 c') → stk (gi σ 189) ((ordS D i c).map nI) → (∀ x ∈ ordS D i c, gi σ 192 x = D 5 x ∧ gi σ 177 (60 * x + d) = D 5 x) → (∀ τ : PS, oF σ τ → (∀ j, (∀ x ∈ ordS D i nc, j ≠ 60 * x + d) → gi τ 177 j = gi σ 177 j) → stk (gi τ 189) ((ordS D i nc).map nI) → (∀ x ∈ ordS D i nc, gi τ 177 (60 * x + d) = D 5 x) → hO ((fX9_lays (nI i) (nI (ordS D i nc).length) τ).bind (fun σ2 => fX9_evening_149 FU (nI i) (nI d) (nI (ordS D i nc).length) 0 σ2)) Q) → hO (fX9_evening_5 (m + q + 1) (nI i) (nI d) (nI (ordS D i c).length) (nI c) σ) Q := by
  have L1 := hL.1
  have L2 := hL.2.1
  intro q
  induction q with
  | zero =>
    intro m c σ hq hE hR hst hcl hk
    have : c = nc := by omega
    subst this
    rw [fX9_evening_5, hE.1.2, hL.2.2.2.1, if_pos (nI_le (Nat.le_refl _) (by omega))]
    exact hk σ (fun _ _ _ _ _ _ _ => rfl) (fun _ _ => rfl) hst (fun x hx => (hcl x hx).2)
  | succ q ih =>
    intro m c σ hq hE hR hst hcl hk
    have hc : c < nc := by omega
    have hRc := hR c hc
    rw [show m + (q + 1) + 1 = (m + q + 1) + 1 by omega, fX9_evening_5, hE.1.2, hL.2.2.2.1, if_neg (nI_ge hc (by omega))]
    simp only [gd_t (inb_nI (show c < 6 by omega) (show 6 < 2 ^ 31 by decide))]
    rw [nI_clamp (show c < 2 ^ 31 by omega), hRc.1]
    by_cases h0 : D 0 c = nI i
    · rw [if_pos h0, asks_eq (by omega)]
      simp only [Option.bind_some]
      have E3c := hE.2.1 c
      have hv := akX_vars (d := d) (i := nI i) (σ := σ) (e := e) (c := c) E3c.2.2.2.2.1 E3c.2.2.2.2.2.1 E3c.2.2.2.2.2.2.1 E3c.2.2.2.2.2.2.2.2.2.2 hRc.2.1 hRc.2.2
      have hB : BKM (akX σ c d (nI i)) s l := BKM_fr hE.2.2.2.1 (akX_ne (by decide)) (fun k h1 h2 j => akX_ne (by omega))
      have hval := says_ok (t := 0) (x := 0) _ hB hz (by decide) (fun _ => rfl) hv
      rw [if_pos rfl] at hval
      refine hval.then ?_
      rintro ⟨y, υ⟩ ⟨hy, hf⟩
      simp only at hy hf ⊢
      rw [← hF c hc h0] at hy
      rw [nI60, gd_t (inb_nI (show 60 * c + d < 360 by omega) (by decide)), nI_clamp (show 60 * c + d < 2 ^ 31 by omega), gi_eq]
      have u1 : ∀ k j, k ≠ 187 → k ≠ 188 → gi υ k j = gi σ k j := fun k j h1 h2 => by rw [f188_ne rfl hf h2, akX_ne h1]
      have hlen := ordS_len D i c
      have hmem : ∀ x ∈ ordS D i c, x < 6 ∧ x ≠ c := fun x hx => by have := (mem_ordS.mp hx).1; omega
      obtain ⟨m2, hm2⟩ := FU_k ((ordS D i c).length + 1) (by omega)
      have goal71 : hO (fX9_evening_71 (fX9_evening_5 (m + q + 1)) (m2 + (ordS D i c).length + 1) (nI i) (nI d) (nI (ordS D i c).length) (nI c) (nI (ordS D i c).length) (sI (sI υ 192 c y) 177 (60 * c + d) y)) Q := by
        refine ev71_ok (by omega) (D 5) (ordS D i c) [] m2 _ trivial (stk_congr (fun j _ => ?_) hst) (fun x hx => ⟨(hmem x hx).1, ?_⟩) ?_ (by simp only [List.length_nil]; omega) ?_
        · rw [gi_ne (by decide), gi_ne (by decide), u1 _ _ (by decide) (by decide)]
        · rw [gi_ne (by decide), gi_nj (hmem x hx).2, u1 _ _ (by decide) (by decide)]
          exact (hcl x hx).1
        · rw [gi_ne (by decide), gi_eq, hy]
        · intro τ t1 t2
          rw [List.nil_append] at t2
          have hord : ordS D i (c + 1) = insR (D 5) c (ordS D i c) := by rw [ordS, if_pos h0]
          have t3 : oF σ τ := fun k j h1 h2 h3 h4 h5 => by rw [t1 k j h3, gi_ne h5, gi_ne h4, u1 k j h1 h2]
          have hl' : (ordS D i c).length + 1 = (ordS D i (c + 1)).length := by rw [hord, insR_len]
          rw [hl']
          refine ih m (c + 1) τ (by omega) (ME_fr hE (fun k hk j => t3 k j (by omega) (by omega) (by omega) (by omega) (by omega))) (fun c' hc' => ?_) (by rw [hord]; exact t2) (fun x hx => ?_) (fun ω w1 w2 w3 w4 => hk ω (fun k j h1 h2 h3 h4 h5 => (w1 k j h1 h2 h3 h4 h5).trans (t3 k j h1 h2 h3 h4 h5)) (fun j hj => ?_) w3 w4)
          · rw [t3 _ _ (by decide) (by decide) (by decide) (by decide) (by decide), t3 _ _ (by decide) (by decide) (by decide) (by decide) (by decide), t3 _ _ (by decide) (by decide) (by decide) (by decide) (by decide)]
            exact hR c' hc'
          · rw [hord, mem_insR] at hx
            rcases hx with hx | hx
            · rw [hx, t1 _ _ (by decide), t1 _ _ (by decide), gi_ne (by decide), gi_eq, gi_eq]
              exact ⟨hy, hy⟩
            · have hxc := (hmem x hx).2
              rw [t1 _ _ (by decide), t1 _ _ (by decide), gi_ne (by decide), gi_nj hxc, gi_nj (by omega), gi_ne (by decide), u1 _ _ (by decide) (by decide), u1 _ _ (by decide) (by decide)]
              exact hcl x hx
          · rw [w2 j hj, t1 _ _ (by decide), gi_nj (hj c (mem_ordS.mpr ⟨hc, h0⟩)), gi_ne (by decide), u1 _ _ (by decide) (by decide)]
      rw [hm2]
      exact goal71
    · rw [if_neg h0]
      unfold fX9_evening_134
      have hord : ordS D i (c + 1) = ordS D i c := by rw [ordS, if_neg h0]
      rw [nI_1]
      have := ih m (c + 1) σ (by omega) hE hR (by rw [hord]; exact hst) (by rw [hord]; exact hcl) hk
      rw [hord] at this
      exact this
/-- rooms and lateness -/
theorem ev149_ok {i d nc R : Nat} {rm : Nat → Int32} {O : List Nat} (hi : i < 8) (hd : d < 60) (hnc : nc ≤ 6) (hR : R ≤ 3) (hO6 : O.length ≤ 6) (hOc : ∀ c ∈ O, c < nc) (hOn : O.Nodup) {Q : PS → Prop} : ∀ (Rm Pre : List Nat) (m : Nat) (D1 : TB) (σ : PS), O = Pre ++ Rm → gi σ 159 i = nI R → (∀ j, j < O.length → gi σ 189 j = nI (O.getD j 0)) → (∀ j, j < O.length → gi σ 191 j = if rm (O.getD j 0) = -1 then nI R else rm (O.getD j 0)) → (∀ c ∈ O, rm c ≠ nI R) → (∀ c, c < nc → gi σ 184 c = D1 3 c) → (∀ c ∈ Pre, gi σ 173 (60 * c + d) = D1 1 c) → (∀ τ : PS, (∀ k j, k ≠ 173 → k ≠ 184 → gi τ k j = gi σ k j) → (∀ c, c < nc → gi τ 184 c = rmF rm Rm D1 3 c) → (∀ c ∈ O, gi τ 173 (60 * c + d) = rmF rm Rm D1 1 c) → (∀ j, (∀ c ∈ Rm, j ≠ 60 * c + d) → gi τ 173 j = gi σ 173 j) → hO (if nI d = 0 then fX9_evening_257 (nI i) (nI d) (nI O.length) 0 τ else gd (inb (((60 * nI i) + nI d) - 1) 480) (fX9_evening_257 (nI i) (nI d) (nI O.length) (gi τ 179 ((((60 * nI i) + nI d) - 1) : Int32).toNatClampNeg) τ)) Q) → hO (fX9_evening_149 (m + Rm.length + 1) (nI i) (nI d) (nI O.length) (nI Pre.length) σ) Q := by
  intro Rm
  induction Rm with
  | nil =>
    intro Pre m D1 σ hEq h159 h189 h191 hrm h184 h173 hk
    rw [List.append_nil] at hEq
    subst hEq
    rw [fX9_evening_149, if_pos (nI_le (Nat.le_refl _) (by omega))]
    exact hk σ (fun _ _ _ _ => rfl) h184 h173 (fun _ _ => rfl)
  | cons c Rm ih =>
    intro Pre m D1 σ hEq h159 h189 h191 hrm h184 h173 hk
    have hlen : O.length = Pre.length + (Rm.length + 1) := by rw [hEq]; simp
    have hkk : Pre.length < O.length := by omega
    have hget : O.getD Pre.length 0 = c := by rw [hEq, gD_a2 (Nat.le_refl _)]; simp
    have hcO : c ∈ O := by rw [hEq]; simp
    have hcn := hOc c hcO
    have hO2 : O = (Pre ++ [c]) ++ Rm := by rw [hEq]; simp
    have hcP : c ∉ Pre := by
      rw [hEq, List.nodup_append] at hOn
      intro q
      exact hOn.2.2 c q c List.mem_cons_self rfl
    have hcR : c ∉ Rm := by
      rw [hEq, List.nodup_append, List.nodup_cons] at hOn
      exact hOn.2.1.1
    have h191c := h191 _ hkk
    rw [hget] at h191c
    rw [List.length_cons, show m + (Rm.length + 1) + 1 = (m + Rm.length + 1) + 1 by omega, fX9_evening_149, if_neg (nI_ge hkk (by omega))]
    unfold fX9_evening_202 fX9_evening_230
    simp only [gd_t (inb_nI (show Pre.length < 6 by omega) (show 6 < 2 ^ 31 by decide)), gd_t (inb_nI hi (show 8 < 2 ^ 31 by decide))]
    rw [nI_clamp (show Pre.length < 2 ^ 31 by omega), nI_clamp (show i < 2 ^ 31 by omega), h189 _ hkk, hget, nI60]
    simp only [gd_t (inb_nI (show c < 6 by omega) (show 6 < 2 ^ 31 by decide)), gd_t (inb_nI (show 60 * c + d < 360 by omega) (show 360 < 2 ^ 31 by decide))]
    rw [nI_clamp (show c < 2 ^ 31 by omega), nI_clamp (show 60 * c + d < 2 ^ 31 by omega), nI_1, show nI (Pre.length + 1) = nI (Pre ++ [c]).length by simp]
    simp (disch := decide) only [gi_ne]
    rw [h191c, h159, h184 c hcn]
    -- what is left, from the state with the room and the lateness written
    have go : ∀ (D2 : TB) (τ : PS), (∀ k j, k ≠ 173 → k ≠ 184 → gi τ k j = gi σ k j) → (∀ c', c' < nc → gi τ 184 c' = D2 3 c') → (∀ c' ∈ Pre ++ [c], gi τ 173 (60 * c' + d) = D2 1 c') → (∀ j, j ≠ 60 * c + d → gi τ 173 j = gi σ 173 j) → (∀ k j, rmF rm (c :: Rm) D1 k j = rmF rm Rm D2 k j) → hO (fX9_evening_149 (m + Rm.length + 1) (nI i) (nI d) (nI O.length) (nI (Pre ++ [c]).length) τ) Q := by
      intro D2 τ t1 t2 t3 t4 t5
      refine ih (Pre ++ [c]) m D2 τ hO2 (by rw [t1 _ _ (by decide) (by decide)]; exact h159) (fun j hj => by rw [t1 _ _ (by decide) (by decide)]; exact h189 j hj) (fun j hj => by rw [t1 _ _ (by decide) (by decide)]; exact h191 j hj) hrm t2 t3 (fun ω w1 w2 w3 w4 => hk ω (fun k j a b => (w1 k j a b).trans (t1 k j a b)) (fun c' hc' => by rw [w2 c' hc', t5]) (fun c' hc' => by rw [w3 c' hc', t5]) (fun j hj => ?_))
      rw [w4 j (fun c' hc' => hj c' (List.mem_cons_of_mem _ hc')), t4 j (hj c List.mem_cons_self)]
    by_cases hm : rm c = -1
    · rw [if_pos hm, if_pos rfl, if_pos rfl]
      refine go (u2 (u2 D1 1 c (rm c)) 3 c (D1 3 c + 1)) _ (fun k j a b => by rw [gi_ne b, gi_ne a]) (fun c' hc' => ?_) (fun c' hc' => ?_) (fun j hj => by rw [gi_ne (by decide), gi_nj hj]) (fun k j => by rw [rmF, if_pos hm])
      · by_cases hcc : c' = c
        · subst hcc; rw [gi_eq, u2_eq]
        · rw [gi_nj hcc, gi_ne (by decide), u2_ne (by omega), u2_ne (by omega)]; exact h184 c' hc'
      · rw [List.mem_append, List.mem_singleton] at hc'
        by_cases hcc : c' = c
        · subst hcc; rw [gi_ne (by decide), gi_eq, u2_ne (by omega), u2_eq, hm]
        · rw [gi_ne (by decide), gi_nj (by omega), u2_ne (by omega), u2_ne (by omega)]
          exact h173 c' (hc'.resolve_right hcc)
    · rw [if_neg hm, if_neg (hrm c hcO), if_neg (hrm c hcO)]
      refine go (u2 D1 1 c (rm c)) _ (fun k j a b => gi_ne a) (fun c' hc' => by rw [gi_ne (by decide), u2_ne (by omega)]; exact h184 c' hc') (fun c' hc' => ?_) (fun j hj => gi_nj hj) (fun k j => by rw [rmF, if_neg hm])
      rw [List.mem_append, List.mem_singleton] at hc'
      by_cases hcc : c' = c
      · subst hcc; rw [gi_eq, u2_eq]
      · rw [gi_nj (by omega), u2_ne (by omega)]
        exact h173 c' (hc'.resolve_right hcc)
theorem ev282_ok {e : TB} {i d nc : Nat} {O : List Nat} (hi : i < 8) (hd : d < 60) (hnc : nc ≤ 6) (hO6 : O.length ≤ 6) (hOc : ∀ c ∈ O, c < nc) : ∀ (Rm Pre : List Nat) (m : Nat) (s : Int32) (h : Nat → Int32) (σ : PS), O = Pre ++ Rm → (∀ j, j < O.length → gi σ 189 j = nI (O.getD j 0)) → (∀ c, gi σ 162 c = e 18 c) → (∀ c, c < nc → gi σ 183 c = h c) → hO (fX9_evening_282 (m + Rm.length + 1) (nI i) (nI d) (nI O.length) s (nI Pre.length) σ) (fun τ => (∀ c, c < nc → gi τ 183 c = (fdF e Rm s h).2 c) ∧ gi τ 179 (60 * i + d) = (fdF e Rm s h).1 ∧ ∀ k j, k ≠ 183 → (k = 179 → j ≠ 60 * i + d) → gi τ k j = gi σ k j) := by
  intro Rm
  induction Rm with
  | nil =>
    intro Pre m s h σ hEq h189 h162 hR
    rw [List.append_nil] at hEq
    subst hEq
    rw [fX9_evening_282, if_pos (nI_le (Nat.le_refl _) (by omega)), nI60, gd_t (inb_nI (by omega) (by decide)), nI_clamp (by omega)]
    refine ⟨_, rfl, fun c hc => by rw [gi_ne (by decide)]; exact hR c hc, gi_eq, fun k j h1 h2 => ?_⟩
    by_cases hk : k = 179
    · subst hk; rw [gi_nj (h2 rfl)]
    · rw [gi_ne hk]
  | cons c Rm ih =>
    intro Pre m s h σ hEq h189 h162 hR
    have hlen : O.length = Pre.length + (Rm.length + 1) := by rw [hEq]; simp
    have hkk : Pre.length < O.length := by omega
    have hget : O.getD Pre.length 0 = c := by rw [hEq, gD_a2 (Nat.le_refl _)]; simp
    have hcO : c ∈ O := by rw [hEq]; simp
    have hcn := hOc c hcO
    have hO2 : O = (Pre ++ [c]) ++ Rm := by rw [hEq]; simp
    rw [List.length_cons, show m + (Rm.length + 1) + 1 = (m + Rm.length + 1) + 1 by omega, fX9_evening_282, if_neg (nI_ge hkk (by omega))]
    unfold fX9_evening_343
    simp only [gd_t (inb_nI (show Pre.length < 6 by omega) (show 6 < 2 ^ 31 by decide))]
    rw [nI_clamp (show Pre.length < 2 ^ 31 by omega), h189 _ hkk, hget]
    simp only [gd_t (inb_nI (show c < 6 by omega) (show 6 < 2 ^ 31 by decide))]
    rw [nI_clamp (show c < 2 ^ 31 by omega), h162, hR c hcn, nI_1, show nI (Pre.length + 1) = nI (Pre ++ [c]).length by simp, fdF]
    have go : ∀ (v s' : Int32) (h' : Nat → Int32), (∀ c', h' c' = if c' = c then v else h c') → hO (fX9_evening_282 (m + Rm.length + 1) (nI i) (nI d) (nI O.length) s' (nI (Pre ++ [c]).length) (sI σ 183 c v)) (fun τ => (∀ c, c < nc → gi τ 183 c = (fdF e Rm s' h').2 c) ∧ gi τ 179 (60 * i + d) = (fdF e Rm s' h').1 ∧ ∀ k j, k ≠ 183 → (k = 179 → j ≠ 60 * i + d) → gi τ k j = gi σ k j) := by
      intro v s' h' hh
      refine (ih (Pre ++ [c]) m s' h' _ hO2 (fun j hj => by rw [gi_ne (by decide)]; exact h189 j hj) (fun c => by rw [gi_ne (by decide)]; exact h162 c) (fun c' hc' => ?_)).mono (fun τ ht => ⟨ht.1, ht.2.1, fun k j h1 h2 => by rw [ht.2.2 k j h1 h2, gi_ne h1]⟩)
      rw [hh]
      by_cases hcc : c' = c
      · rw [if_pos hcc, hcc, gi_eq]
      · rw [if_neg hcc, gi_nj hcc]; exact hR c' hc'
    by_cases hs : s < e 18 c
    · rw [if_neg (Int32.not_le.mpr hs), if_pos hs]
      exact go _ _ _ (fun _ => rfl)
    · rw [if_pos (Int32.not_lt.mp hs), if_neg hs]
      exact go _ _ _ (fun _ => rfl)
