/-! the reference's evening of an inn -/
def pvM (σ : PS) (d i : Nat) : Int32 := if d = 0 then 0 else gi σ 179 (60 * i + d - 1)
theorem imin_200 (x : Int32) : (if x ≤ 200 then x else 200) = imin 200 x := by
  unfold imin
  by_cases h : x < 200
  · rw [if_pos h, if_pos (Int32.le_of_lt h)]
  · rw [if_neg h]
    by_cases h2 : x ≤ 200
    · rw [if_pos h2]
      exact Int32.le_antisymm h2 (Int32.not_lt.mp h)
    · rw [if_neg h2]
theorem mev_ok {e : TB} {l : List RU} {s : Nat} {sh : Nat → Nat → Bool} {i d na nc : Nat} {D : TB} {σ : PS} (hz : ∀ r ∈ l, r.1 = 0 → r.2.1 = 0) (hL : LE e na nc) (hi : i < na) (hd : d < 60) (hF : ∀ c, c < nc → D 0 c = nI i → D 5 c = sayS l 0 0 (vrS e c (D 2 c) (D 3 c) d (nI i))) (hE : ME e l s sh σ) (hR : ∀ c, c < nc → gi σ 182 c = D 0 c ∧ gi σ 183 c = D 2 c ∧ gi σ 184 c = D 3 c) (hV : pvM σ d i = D 7 i) : hO (fX9_evening (nI i) (nI d) σ) (fun τ => (∀ c, c < nc → gi τ 183 c = hoS e nc D i 2 c ∧ gi τ 184 c = hoS e nc D i 3 c) ∧ gi τ 179 (60 * i + d) = hoS e nc D i 7 i ∧ (∀ c ∈ ordS D i nc, gi τ 173 (60 * c + d) = hoS e nc D i 1 c ∧ gi τ 177 (60 * c + d) = D 5 c) ∧ (∀ j, (∀ c ∈ ordS D i nc, j ≠ 60 * c + d) → gi τ 173 j = gi σ 173 j ∧ gi τ 177 j = gi σ 177 j) ∧ (∀ k j, k ≠ 173 → k ≠ 177 → k ≠ 183 → k ≠ 184 → ¬ (187 ≤ k ∧ k ≤ 192) → (k = 179 → j ≠ 60 * i + d) → gi τ k j = gi σ k j)) := by
  have hL0 := hL
  obtain ⟨L1, L2, L3, L4, L5, L6⟩ := hL
  unfold fX9_evening
  obtain ⟨m, hm⟩ := FU_k (nc + 1) (by omega)
  rw [hm]
  have hi8 : i < 8 := by omega
  refine ev5_ok hz hL0 hi hd hF nc m 0 σ (by omega) hE hR trivial (fun x hx => by cases hx) ?_
  intro τ t1 t177 t2 t3
  obtain ⟨R, hR7, -, hR3⟩ := (L5 i hi).2.2.2.1
  have hRR : (e 7 i).toNatClampNeg = R := by rw [hR7, nI_clamp (by omega)]
  have hOl := ordS_len D i nc
  have hOc : ∀ c ∈ ordS D i nc, c < nc := fun c h => (mem_ordS.mp h).1
  generalize hO' : (ordS D i nc).reverse = O
  have hOlen : O.length = (ordS D i nc).length := by rw [← hO', List.length_reverse]
  have hOm : ∀ c, c ∈ O ↔ c ∈ ordS D i nc := fun c => by rw [← hO', List.mem_reverse]
  have hOn : O.Nodup := by rw [← hO']; exact nodup_rev (nodup_ordS nc)
  have hK : OK e i R O := by
    refine ⟨hR3, by omega, hOn, fun c hc => ?_, (L5 i hi).2.1, fun r hr => (L5 i hi).2.2.2.2 r (by rw [hRR]; exact hr)⟩
    have := L6 c (hOc c ((hOm c).mp hc))
    exact ⟨this.2.2.1, this.2.1, this.1⟩
  have t0 : ∀ k j, k ≠ 187 → k ≠ 188 → k ≠ 189 → k ≠ 192 → k ≠ 177 → gi τ k j = gi σ k j := t1
  have h189 : ∀ j, j < O.length → gi τ 189 j = nI (O.getD j 0) := by
    intro j hj
    rw [← hO']
    exact stk_dig t2 j (by rw [← hOlen]; exact hj)
  have hEt := ME_fr hE (fun k hk j => t0 k j (by omega) (by omega) (by omega) (by omega) (by omega))
  have hly : lyE e i R O τ := by
    refine ⟨h189, ?_, ?_, fun r hr => hEt.2.2.1 i hi8 r hr, fun c => ?_⟩
    · rw [(hEt.2.1 i).2.2.2.1, hR7]
    · exact (hEt.2.1 i).2.1
    · have := hEt.2.1 c
      exact ⟨this.2.2.2.2.1, this.2.2.2.2.2.1, this.2.2.2.2.2.2.1⟩
  rw [← hOlen]
  refine (lays_ok hi8 hK (fun c hc => by have := hOc c ((hOm c).mp hc); omega) hly).then ?_
  rintro υ ⟨u191, uF⟩
  have u1 : ∀ k j, k ≠ 190 → k ≠ 191 → gi υ k j = gi τ k j := fun k j h1 h2 => uF.1 k (by unfold SX9_lays inS; simp; omega) j
  obtain ⟨m2, hm2⟩ := FU_k (O.length + 1) (by omega)
  rw [hm2]
  obtain ⟨w1, w2, -⟩ := lay_best hK
  have hrm : ∀ c ∈ O, rmS (layS e i R O [] [] 0) c ≠ nI R := by
    intro c hc
    rw [w2 c hc]
    by_cases hq : aS R (layS e i R O [] [] 0) c = R
    · rw [if_pos hq]; exact (nI_m1 (by omega)).symm
    · rw [if_neg hq]
      intro h
      exact hq (nIeq_lit h (by have := w1.1 c hc; omega) (by omega))
  refine ev149_ok (rm := rmS (layS e i R O [] [] 0)) (D1 := D) (O := O) (Pre := []) hi8 hd L2 hR3 (by omega) (fun c hc => hOc c ((hOm c).mp hc)) hOn O m2 υ rfl (by rw [u1 _ _ (by decide) (by decide)]; exact hly.2.1) (fun j hj => by rw [u1 _ _ (by decide) (by decide)]; exact h189 j hj) u191 hrm (fun c hc => by rw [u1 _ _ (by decide) (by decide), t0 _ _ (by decide) (by decide) (by decide) (by decide) (by decide)]; exact (hR c hc).2.2) (fun c hc => by cases hc) ?_
  intro ω w173 w184 w173' w173n
  have o1 : ∀ k j, k ≠ 173 → k ≠ 184 → k ≠ 190 → k ≠ 191 → k ≠ 187 → k ≠ 188 → k ≠ 189 → k ≠ 192 → k ≠ 177 → gi ω k j = gi σ k j := fun k j a b c d e f g h i => by rw [w173 k j a b, u1 k j c d, t0 k j e f g h i]
  have hl0 : hoS e nc D i 2 = (fdF e O (imin 200 (D 7 i + e 6 i)) (D 2)).2 := by
    funext c
    unfold hoS
    rw [if_pos rfl, hO']
  have hl7 : hoS e nc D i 7 i = (fdF e O (imin 200 (D 7 i + e 6 i)) (D 2)).1 := by
    unfold hoS
    rw [if_neg (by decide), if_pos ⟨rfl, rfl⟩, hO']
  have hl13 : ∀ k c, k = 1 ∨ k = 3 → hoS e nc D i k c = rmF (rmS (layS e i R O [] [] 0)) O D k c := by
    intro k c hk
    unfold hoS
    rw [if_neg (by omega), if_neg (by omega), hRR, hO']
  -- the fodder
  have fin : ∀ s0 : Int32, s0 = pvM σ d i → hO (fX9_evening_257 (nI i) (nI d) (nI O.length) s0 ω) (fun τ => (∀ c, c < nc → gi τ 183 c = hoS e nc D i 2 c ∧ gi τ 184 c = hoS e nc D i 3 c) ∧ gi τ 179 (60 * i + d) = hoS e nc D i 7 i ∧ (∀ c ∈ ordS D i nc, gi τ 173 (60 * c + d) = hoS e nc D i 1 c ∧ gi τ 177 (60 * c + d) = D 5 c) ∧ (∀ j, (∀ c ∈ ordS D i nc, j ≠ 60 * c + d) → gi τ 173 j = gi σ 173 j ∧ gi τ 177 j = gi σ 177 j) ∧ (∀ k j, k ≠ 173 → k ≠ 177 → k ≠ 183 → k ≠ 184 → ¬ (187 ≤ k ∧ k ≤ 192) → (k = 179 → j ≠ 60 * i + d) → gi τ k j = gi σ k j)) := by
    intro s0 hs0
    unfold fX9_evening_257 fX9_evening_279
    rw [gd_t (inb_nI hi8 (by decide)), nI_clamp (by omega), o1 158 i (by decide) (by decide) (by decide) (by decide) (by decide) (by decide) (by decide) (by decide) (by decide), (hE.2.1 i).2.2.1, hs0, hV]
    obtain ⟨m3, hm3⟩ := FU_k (O.length + 1) (by omega)
    rw [hm3]
    have fd := ev282_ok (e := e) (O := O) hi8 hd L2 (by omega) (fun c hc => hOc c ((hOm c).mp hc)) O [] m3 (imin 200 (D 7 i + e 6 i)) (D 2) ω rfl (fun j hj => by rw [w173 _ _ (by decide) (by decide), u1 _ _ (by decide) (by decide)]; exact h189 j hj) (fun c => by rw [o1 162 c (by decide) (by decide) (by decide) (by decide) (by decide) (by decide) (by decide) (by decide) (by decide)]; exact (hE.2.1 c).2.2.2.2.2.1) (fun c hc => by rw [o1 183 c (by decide) (by decide) (by decide) (by decide) (by decide) (by decide) (by decide) (by decide) (by decide)]; exact (hR c hc).2.1)
    obtain ⟨α, hα, a1, a2, a3⟩ := fd
    have e1 : (if D 7 i + e 6 i ≤ 200 then fX9_evening_282 (m3 + O.length + 1) (nI i) (nI d) (nI O.length) (D 7 i + e 6 i) 0 ω else fX9_evening_282 (m3 + O.length + 1) (nI i) (nI d) (nI O.length) 200 0 ω) = some α := by
      rw [← hα, ← imin_200]
      split <;> rfl
    refine ⟨α, e1, ?_⟩
    refine ⟨fun c hc => ⟨by rw [a1 c hc, hl0], by rw [a3 _ _ (by decide) (by omega), w184 c hc, hl13 3 c (by omega)]⟩, by rw [a2, hl7], fun c hc => ⟨?_, ?_⟩, fun j hj => ⟨?_, ?_⟩, fun k j h1 h2 h3 h4 h5 h6 => ?_⟩
    · rw [a3 _ _ (by decide) (by omega), w173' c ((hOm c).mpr hc), hl13 1 c (by omega)]
    · rw [a3 _ _ (by decide) (by omega), w173 _ _ (by decide) (by decide), u1 _ _ (by decide) (by decide)]
      exact t3 c hc
    · rw [a3 _ _ (by decide) (by omega), w173n j (fun c hc => hj c ((hOm c).mp hc)), u1 _ _ (by decide) (by decide), t0 _ _ (by decide) (by decide) (by decide) (by decide) (by decide)]
    · rw [a3 _ _ (by decide) (by omega), w173 _ _ (by decide) (by decide), u1 _ _ (by decide) (by decide)]
      exact t177 j hj
    · rw [a3 k j h3 h6]
      exact o1 k j h1 h4 (by omega) (by omega) (by omega) (by omega) (by omega) (by omega) h2
  cases d with
  | zero =>
    rw [if_pos nI_0]
    exact fin 0 rfl
  | succ d =>
    rw [if_neg (nI_ne0 (by omega) (by omega)), nI60, nI_s1 (by omega), gd_t (inb_nI (by omega) (by decide)), nI_clamp (by omega), o1 179 _ (by decide) (by decide) (by decide) (by decide) (by decide) (by decide) (by decide) (by decide) (by decide)]
    exact fin _ rfl
/-! the reference's day -/
/-- the table of a day, as the reference holds it -/
def RT (σ : PS) (na nc d : Nat) (D : TB) : Prop := (∀ c, c < nc → gi σ 172 (60 * c + d) = D 0 c ∧ gi σ 173 (60 * c + d) = D 1 c ∧ gi σ 174 (60 * c + d) = D 2 c ∧ gi σ 175 (60 * c + d) = D 3 c ∧ gi σ 176 (60 * c + d) = D 4 c ∧ gi σ 177 (60 * c + d) = D 5 c ∧ gi σ 178 (60 * c + d) = D 6 c) ∧ (∀ i, i < na → gi σ 179 (60 * i + d) = D 7 i) ∧ ∀ x, x < 5 → gi σ 180 (60 * x + d) = D 8 x
/-- nothing but the day's column of the tables, and what a day uses -/
def rF (d : Nat) (σ τ : PS) : Prop := ∀ k j, ¬ (182 ≤ k ∧ k ≤ 192) → (172 ≤ k → k ≤ 180 → j % 60 ≠ d) → gi τ k j = gi σ k j
theorem rF.rf {d : Nat} {σ : PS} : rF d σ σ := fun _ _ _ _ => rfl
theorem rF.tr {d : Nat} {σ τ υ : PS} (a : rF d σ τ) (b : rF d τ υ) : rF d σ υ := fun k j h1 h2 => (b k j h1 h2).trans (a k j h1 h2)
theorem ME_rF {e : TB} {l : List RU} {s d : Nat} {sh : Nat → Nat → Bool} {σ τ : PS} (h : ME e l s sh σ) (f : rF d σ τ) : ME e l s sh τ := ME_fr h (fun k hk j => f k j (by omega) (fun _ _ => by omega))
theorem m60 {c d : Nat} (hd : d < 60) : (60 * c + d) % 60 = d := by omega
theorem m152_ok {e : TB} {l : List RU} {s : Nat} {sh : Nat → Nat → Bool} {d na nc : Nat} {P : TB} {r144 : Int32 → PS → Option PS} {Q : PS → Prop} (hz : ∀ r ∈ l, r.1 = 0 → r.2.1 = 0) (hL : LE e na nc) (hd : d < 60) (hP : DI P na nc) : ∀ (q m c : Nat) (σ : PS), c + q = nc → ME e l s sh σ → (∀ c', c' < nc → gi σ 182 c' = (if c' < c then morS e l sh d P c 0 c' else wkS e P c') ∧ gi σ 183 c' = P 2 c' ∧ gi σ 184 c' = P 3 c' ∧ gi σ 185 c' = morS e l sh d P c 4 c') → (∀ x, x < 5 → gi σ 186 x = morS e l sh d P c 8 x) → (∀ c', c' < c → gi σ 178 (60 * c' + d) = morS e l sh d P c 6 c') → (∀ τ : PS, rF d σ τ → (∀ k, 179 ≤ k → k ≤ 180 → ∀ j, gi τ k j = gi σ k j) → (∀ c', c' < nc → gi τ 182 c' = morS e l sh d P nc 0 c' ∧ gi τ 183 c' = P 2 c' ∧ gi τ 184 c' = P 3 c' ∧ gi τ 185 c' = morS e l sh d P nc 4 c') → (∀ x, x < 5 → gi τ 186 x = morS e l sh d P nc 8 x) → (∀ c', c' < nc → gi τ 178 (60 * c' + d) = morS e l sh d P nc 6 c') → hO (fX9_goes_174 r144 FU (nI d) 0 τ) Q) → hO (fX9_goes_152 r144 (m + q + 1) (nI d) (nI c) σ) Q := by
  have L1 := hL.1
  have L2 := hL.2.1
  intro q
  induction q with
  | zero =>
    intro m c σ hq hE h1 h2 h3 hk
    have : c = nc := by omega
    subst this
    rw [fX9_goes_152, hE.1.2, hL.2.2.2.1, if_pos (nI_le (Nat.le_refl _) (by omega))]
    refine hk σ rF.rf (fun _ _ _ _ => rfl) (fun c' hc' => ?_) h2 h3
    have := h1 c' hc'
    rw [if_pos hc'] at this
    exact this
  | succ q ih =>
    intro m c σ hq hE h1 h2 h3 hk
    have hc : c < nc := by omega
    rw [show m + (q + 1) + 1 = (m + q + 1) + 1 by omega, fX9_goes_152, hE.1.2, hL.2.2.2.1, if_neg (nI_ge hc (by omega)), nI_1]
    have hM : ∀ k, k ≠ 8 → morS e l sh d P c k c = P k c := fun k hk => morS_ne hk (Or.inl (Nat.le_refl _))
    have h1c := h1 c hc
    rw [if_neg (by omega)] at h1c
    have hwk : wkS e (morS e l sh d P c) c = wkS e P c := by unfold wkS; rw [hM 0 (by decide)]
    refine (mmor_ok (D := morS e l sh d P c) hz hE hL hc hd (morS_DI hL hP c (by omega)) (by rw [hwk]; exact h1c.1) (by rw [hM 2 (by decide)]; exact h1c.2.1) (by rw [hM 3 (by decide)]; exact h1c.2.2.1) h1c.2.2.2 h2).then ?_
    rintro τ ⟨t1, t2, t3, t4, t5⟩
    have f1 : rF d σ τ := fun k j a b => t5 k j (by omega) (by omega) (by omega) (fun hk hj => by
      subst hk
      exact b (by decide) (by decide) (by rw [hj]; exact m60 hd)) (by omega) (by omega)
    refine ih m (c + 1) τ (by omega) (ME_rF hE f1) (fun c' hc' => ?_) t4 (fun c' hc' => ?_) (fun ω w1 w0 w2 w3 w4 => hk ω (f1.tr w1) (fun k a b j => (w0 k a b j).trans (t5 k j (by omega) (by omega) (by omega) (by omega) (by omega) (by omega))) w2 w3 w4)
    · have hh := h1 c' hc'
      rw [t5 183 c' (by decide) (by decide) (by decide) (by omega) (by omega) (by omega), t5 184 c' (by decide) (by decide) (by decide) (by omega) (by omega) (by omega)]
      refine ⟨?_, hh.2.1, hh.2.2.1, ?_⟩
      · by_cases hcc : c' = c
        · subst hcc
          rw [if_pos (by omega)]
          exact t1
        · rw [t5 182 c' (by decide) (by decide) (by decide) (by omega) (fun _ => hcc) (by omega), hh.1]
          show _ = if c' < c + 1 then mo1S e l sh d (morS e l sh d P c) c 0 c' else _
          rw [mo1S_ne (by decide) (Or.inl hcc)]
          by_cases hlt : c' < c
          · rw [if_pos hlt, if_pos (by omega)]
          · rw [if_neg hlt, if_neg (by omega)]
      · by_cases hcc : c' = c
        · subst hcc
          exact t2
        · rw [t5 185 c' (by decide) (by decide) (by decide) (by omega) (by omega) (fun _ => hcc), hh.2.2.2]
          show _ = mo1S e l sh d (morS e l sh d P c) c 4 c'
          rw [mo1S_ne (by decide) (Or.inl hcc)]
    · by_cases hcc : c' = c
      · subst hcc
        exact t3
      · rw [t5 178 _ (by decide) (by decide) (by decide) (fun _ => by omega) (by omega) (by omega), h3 c' (by omega)]
        show _ = mo1S e l sh d (morS e l sh d P c) c 6 c'
        rw [mo1S_ne (by decide) (Or.inl hcc)]
theorem m174_ok {e : TB} {l : List RU} {s : Nat} {sh : Nat → Nat → Bool} {d na nc : Nat} {M : TB} {r144 : Int32 → PS → Option PS} {Q : PS → Prop} (hL : LE e na nc) (hd : d < 60) : ∀ (q m c : Nat) (σ : PS), c + q = nc → ME e l s sh σ → (∀ c', c' < nc → gi σ 182 c' = evS e l d M c 0 c') → (∀ τ : PS, (∀ k j, k ≠ 182 → gi τ k j = gi σ k j) → (∀ c', c' < nc → gi τ 182 c' = evS e l d M nc 0 c') → hO (fX9_goes_212 r144 FU (nI d) 0 τ) Q) → hO (fX9_goes_174 r144 (m + q + 1) (nI d) (nI c) σ) Q := by
  have L1 := hL.1
  have L2 := hL.2.1
  intro q
  induction q with
  | zero =>
    intro m c σ hq hE h1 hk
    have : c = nc := by omega
    subst this
    rw [fX9_goes_174, hE.1.2, hL.2.2.2.1, if_pos (nI_le (Nat.le_refl _) (by omega))]
    exact hk σ (fun _ _ _ => rfl) h1
  | succ q ih =>
    intro m c σ hq hE h1 hk
    have hc : c < nc := by omega
    have E := hE.2.1 c
    rw [show m + (q + 1) + 1 = (m + q + 1) + 1 by omega, fX9_goes_174, hE.1.2, hL.2.2.2.1, if_neg (nI_ge hc (by omega))]
    unfold fX9_goes_204
    simp only [gd_t (inb_nI (show c < 6 by omega) (show 6 < 2 ^ 31 by decide))]
    rw [nI_clamp (show c < 2 ^ 31 by omega), E.2.2.2.2.2.2.2.2.2.1, E.2.2.2.2.2.2.2.1, nI_1]
    have step : ∀ c', evS e l d M (c + 1) 0 c' = beS e d (evS e l d M c) c 0 c' := fun c' => by
      show fiS e l d (beS e d (evS e l d M c) c) c 0 c' = _
      rw [fiS_ne (by omega)]
    by_cases hb : e 22 c = nI d
    · rw [if_pos hb]
      refine ih m (c + 1) _ (by omega) (ME_fr hE (fun k hk j => gi_ne (by omega))) (fun c' hc' => ?_) (fun τ t1 t2 => hk τ (fun k j h => by rw [t1 k j h, gi_ne h]) t2)
      rw [step]
      unfold beS
      rw [if_pos hb]
      by_cases hcc : c' = c
      · subst hcc; rw [gi_eq, u2_eq]
      · rw [gi_nj hcc, u2_ne (by omega)]; exact h1 c' hc'
    · rw [if_neg hb]
      refine ih m (c + 1) σ (by omega) hE (fun c' hc' => ?_) hk
      rw [step]
      unfold beS
      rw [if_neg hb]
      exact h1 c' hc'
