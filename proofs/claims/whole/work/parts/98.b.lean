/-! the reader's cells beside where the reading stands -/
def clW : QS → List Nat
  | ((_, pt), _, _, (re, cn, op, _), _, wt) => wt ++ ((if pt = 2 then [21 + op] else []) ++ (if pt = 0 then [] else bwS re cn))
def curC : QS → List Int32
  | ((_, pt), _, (_, _, va), (re, cn, _, le), it, _) => if pt = 0 then it.map enI else va.map enI ++ (preC re cn ++ ((if pt = 2 then le.map enI else []) ++ it.map enI))
def ruP (σ : PS) (b c k : Nat) (r : RU) : Prop := gi σ (b + 1) k = nI (3 + r.1) ∧ gi σ (b + 2) k = r.2.1 ∧ ∃ p, gi σ (b + 3) k = nI p ∧ gi σ (b + 4) k = nI (p + r.2.2.1.length) ∧ gi σ (b + 5) k = nI (p + r.2.2.1.length + (ccS 0 r.2.2.2).length) ∧ p + r.2.2.1.length + (ccS 0 r.2.2.2).length ≤ c ∧ sgL (gi σ (b + 6)) p (r.2.2.1.map enI) ∧ sgL (gi σ (b + 6)) (p + r.2.2.1.length) (ccS 0 r.2.2.2)
def bkP (σ : PS) (b c : Nat) : Nat → List RU → Prop
  | _, [] => True
  | k, r :: l => ruP σ b c k r ∧ bkP σ b c (k + 1) l
theorem ruP_fr {σ τ : PS} {b c d k : Nat} {r : RU} (h : ∀ i, 1 ≤ i → i ≤ 5 → gi τ (b + i) k = gi σ (b + i) k) (h6 : ∀ j, j < c → gi τ (b + 6) j = gi σ (b + 6) j) (hd : c ≤ d) (hr : ruP σ b c k r) : ruP τ b d k r := by
  obtain ⟨h1, h2, p, h3, h4, h5, h7, h8, h9⟩ := hr
  refine ⟨by rw [h 1 (by omega) (by omega)]; exact h1, by rw [h 2 (by omega) (by omega)]; exact h2, p, by rw [h 3 (by omega) (by omega)]; exact h3, by rw [h 4 (by omega) (by omega)]; exact h4, by rw [h 5 (by omega) (by omega)]; exact h5, by omega, sgL_congr (fun j _ q => h6 j ?_) h8, sgL_congr (fun j _ q => h6 j ?_) h9⟩
  · rw [List.length_map] at q; omega
  · omega
theorem bkP_fr {σ τ : PS} {b c d : Nat} (h6 : ∀ j, j < c → gi τ (b + 6) j = gi σ (b + 6) j) (hd : c ≤ d) {l : List RU} : ∀ {k : Nat}, (∀ i, 1 ≤ i → i ≤ 5 → ∀ j, j < k + l.length → gi τ (b + i) j = gi σ (b + i) j) → bkP σ b c k l → bkP τ b d k l := by
  induction l with
  | nil => intro k _ _; trivial
  | cons r l ih =>
    intro k h hr
    simp only [List.length_cons] at h
    exact ⟨ruP_fr (fun i a1 a2 => h i a1 a2 k (by omega)) h6 hd hr.1, ih (fun i a1 a2 j hj => h i a1 a2 j (by omega)) hr.2⟩
theorem bkP_snoc {σ : PS} {b c : Nat} {r : RU} {l : List RU} : ∀ {k : Nat}, bkP σ b c k l → ruP σ b c (k + l.length) r → bkP σ b c k (l ++ [r]) := by
  induction l with
  | nil => intro k _ h; exact ⟨h, trivial⟩
  | cons x l ih =>
    intro k h g
    refine ⟨h.1, ih h.2 ?_⟩
    simp only [List.length_cons] at g
    rw [show k + 1 + l.length = k + (l.length + 1) by omega]
    exact g
theorem bkP_R {σ : PS} {b c : Nat} (hc : c ≤ 400) {l : List RU} : ∀ {k : Nat}, bkP σ b c k l → bkR σ b k l := by
  induction l with
  | nil => intro k _; trivial
  | cons r l ih =>
    intro k h
    obtain ⟨⟨h1, h2, p, h3, h4, h5, h7, h8, h9⟩, h10⟩ := h
    exact ⟨⟨h1, h2, p, h3, h4, h5, by omega, h8, h9⟩, ih h10⟩
def CK (b t aw pt o : Nat) (wr : Int32) (W : List Nat) (rs : List RU) (c : Nat) (C : List Int32) (so : Nat) (lo x : Int32) (σ : PS) : Prop := gi σ 38 3 = nI aw ∧ (aw ≠ 0 → gi σ 38 4 = nI pt) ∧ gi σ 38 5 = nI o ∧ gi σ 38 6 = 0 ∧ gi σ 38 7 = -1 ∧ gi σ 38 8 = wr ∧ (gi σ 38 2 = nI W.length ∧ stk (gi σ 39) (W.map nI)) ∧ gi σ b 7 = nI rs.length ∧ bkP σ b c 0 rs ∧ gi σ b 8 = nI (c + C.length) ∧ c + C.length + W.length ≤ t ∧ sgL (gi σ (b + 6)) c C ∧ (aw ≠ 0 → gi σ (b + 1) rs.length = nI (3 + so) ∧ gi σ (b + 2) rs.length = lo ∧ gi σ (b + 3) rs.length = nI c ∧ gi σ (b + 4) rs.length = x)
def CQ (b t : Nat) (A : QS) (σ : PS) : Prop := match A with
  | ((aw, pt), (rs, wr), (so, lo, va), q, it, wt) => ∃ c, CK b t aw pt (opnW wt) wr (clW ((aw, pt), (rs, wr), (so, lo, va), q, it, wt)) rs c (curC ((aw, pt), (rs, wr), (so, lo, va), q, it, wt)) so lo (if pt = 0 then -1 else nI (c + va.length)) σ
/-- what a reading changes -/
def frP (b : Nat) (σ τ : PS) : Prop := (∀ k j, k ≠ 38 → k ≠ 39 → k ≠ 40 → (k < b ∨ b + 6 < k) → gi τ k j = gi σ k j) ∧ bkO τ = bkO σ ∧ drO τ = drO σ
theorem frP.rf {b : Nat} {σ : PS} : frP b σ σ := ⟨fun _ _ _ _ _ _ => rfl, rfl, rfl⟩
theorem frP.tr {b : Nat} {σ τ υ : PS} (h : frP b σ τ) (g : frP b τ υ) : frP b σ υ := ⟨fun k j a1 a2 a3 a4 => (g.1 k j a1 a2 a3 a4).trans (h.1 k j a1 a2 a3 a4), g.2.1.trans h.2.1, g.2.2.trans h.2.2⟩
theorem frP.i {b k j : Nat} {x : Int32} {σ τ : PS} (h : frP b σ τ) (hk : k = 38 ∨ k = 39 ∨ k = 40 ∨ (b ≤ k ∧ k ≤ b + 6)) : frP b σ (sI τ k j x) := ⟨fun a i a1 a2 a3 a4 => (gi_ne (by omega)).trans (h.1 a i a1 a2 a3 a4), h.2⟩
/-- the steps keep the scanner too -/
def frS (b : Nat) (σ τ : PS) : Prop := frP b σ τ ∧ ∀ j, gi τ 40 j = gi σ 40 j
theorem frS.rf {b : Nat} {σ : PS} : frS b σ σ := ⟨frP.rf, fun _ => rfl⟩
theorem frS.tr {b : Nat} {σ τ υ : PS} (h : frS b σ τ) (g : frS b τ υ) : frS b σ υ := ⟨h.1.tr g.1, fun j => (g.2 j).trans (h.2 j)⟩
theorem frS.i {b k j : Nat} {x : Int32} {σ τ : PS} (h : frS b σ τ) (hb : b = 116 ∨ b = 124) (hk : k = 38 ∨ k = 39 ∨ (b ≤ k ∧ k ≤ b + 6)) : frS b σ (sI τ k j x) := ⟨h.1.i (by omega), fun i => (gi_ne (by omega)).trans (h.2 i)⟩
theorem CK.mono {b t u aw pt o c so : Nat} {wr lo x : Int32} {W : List Nat} {rs : List RU} {C : List Int32} {σ : PS} (h : CK b t aw pt o wr W rs c C so lo x σ) (hu : t ≤ u) : CK b u aw pt o wr W rs c C so lo x σ := by
  obtain ⟨a1, a2, a3, a4, a5, a6, a7, a8, a9, b1, b2, b3, b4⟩ := h
  exact ⟨a1, a2, a3, a4, a5, a6, a7, a8, a9, b1, by omega, b3, b4⟩
theorem CK.set {b t aw pt o c so aw' pt' o' : Nat} {wr wr' lo x : Int32} {W : List Nat} {rs : List RU} {C : List Int32} {σ τ : PS} (h : CK b t aw pt o wr W rs c C so lo x σ) (ha : aw' ≠ 0 → aw ≠ 0) (h3 : gi τ 38 3 = nI aw') (h4 : aw' ≠ 0 → gi τ 38 4 = nI pt') (h5 : gi τ 38 5 = nI o') (h8 : gi τ 38 8 = wr') (h2 : gi τ 38 2 = gi σ 38 2) (h6 : gi τ 38 6 = gi σ 38 6) (h7 : gi τ 38 7 = gi σ 38 7) (hr : ∀ k j, k = 39 ∨ (b ≤ k ∧ k ≤ b + 6) → gi τ k j = gi σ k j) : CK b t aw' pt' o' wr' W rs c C so lo x τ := by
  obtain ⟨a1, a2, a3, a4, a5, a6, a7, a8, a9, b1, b2, b3, b4⟩ := h
  refine ⟨h3, h4, h5, by rw [h6]; exact a4, by rw [h7]; exact a5, h8, ⟨by rw [h2]; exact a7.1, stk_congr (fun j _ => hr 39 j (Or.inl rfl)) a7.2⟩, by rw [hr _ _ (by omega)]; exact a8, bkP_fr (fun j _ => hr _ _ (by omega)) (Nat.le_refl _) (fun i i1 i2 j _ => hr _ _ (by omega)) a9, by rw [hr _ _ (by omega)]; exact b1, b2, sgL_congr (fun j _ _ => hr _ _ (by omega)) b3, fun z => ?_⟩
  rw [hr (b + 1) _ (by omega), hr (b + 2) _ (by omega), hr (b + 3) _ (by omega), hr (b + 4) _ (by omega)]
  exact b4 (ha z)
theorem CK.s3 {b t aw pt o c so : Nat} {wr lo x : Int32} {W : List Nat} {rs : List RU} {C : List Int32} {σ : PS} (hb : b = 116 ∨ b = 124) (h : CK b t aw pt o wr W rs c C so lo x σ) (ha : aw ≠ 0) (aw' : Nat) : CK b t aw' pt o wr W rs c C so lo x (sI σ 38 3 (nI aw')) := h.set (fun _ => ha) gi_eq (fun _ => by rw [gi_nj (by decide)]; exact h.2.1 ha) (by rw [gi_nj (by decide)]; exact h.2.2.1) (by rw [gi_nj (by decide)]; exact h.2.2.2.2.2.1) (gi_nj (by decide)) (gi_nj (by decide)) (gi_nj (by decide)) (fun k j hk => gi_ne (by omega))
theorem CK.s4 {b t aw pt o c so : Nat} {wr lo x : Int32} {W : List Nat} {rs : List RU} {C : List Int32} {σ : PS} (hb : b = 116 ∨ b = 124) (h : CK b t aw pt o wr W rs c C so lo x σ) (pt' : Nat) : CK b t aw pt' o wr W rs c C so lo x (sI σ 38 4 (nI pt')) := h.set (fun z => z) (by rw [gi_nj (by decide)]; exact h.1) (fun _ => gi_eq) (by rw [gi_nj (by decide)]; exact h.2.2.1) (by rw [gi_nj (by decide)]; exact h.2.2.2.2.2.1) (gi_nj (by decide)) (gi_nj (by decide)) (gi_nj (by decide)) (fun k j hk => gi_ne (by omega))
theorem CK.s5 {b t aw pt o c so : Nat} {wr lo x : Int32} {W : List Nat} {rs : List RU} {C : List Int32} {σ : PS} (hb : b = 116 ∨ b = 124) (h : CK b t aw pt o wr W rs c C so lo x σ) (o' : Nat) : CK b t aw pt o' wr W rs c C so lo x (sI σ 38 5 (nI o')) := h.set (fun z => z) (by rw [gi_nj (by decide)]; exact h.1) (fun z => by rw [gi_nj (by decide)]; exact h.2.1 z) gi_eq (by rw [gi_nj (by decide)]; exact h.2.2.2.2.2.1) (gi_nj (by decide)) (gi_nj (by decide)) (gi_nj (by decide)) (fun k j hk => gi_ne (by omega))
theorem CK.s8 {b t aw pt o c so : Nat} {wr lo x : Int32} {W : List Nat} {rs : List RU} {C : List Int32} {σ : PS} (hb : b = 116 ∨ b = 124) (h : CK b t aw pt o wr W rs c C so lo x σ) (wr' : Int32) : CK b t aw pt o wr' W rs c C so lo x (sI σ 38 8 wr') := h.set (fun z => z) (by rw [gi_nj (by decide)]; exact h.1) (fun z => by rw [gi_nj (by decide)]; exact h.2.1 z) (by rw [gi_nj (by decide)]; exact h.2.2.1) gi_eq (gi_nj (by decide)) (gi_nj (by decide)) (gi_nj (by decide)) (fun k j hk => gi_ne (by omega))
/-- a code is written -/
theorem CK.wr {b t aw pt o c so : Nat} {wr lo x : Int32} {W : List Nat} {rs : List RU} {C : List Int32} {σ : PS} (hb : b = 116 ∨ b = 124) (h : CK b t aw pt o wr W rs c C so lo x σ) (ht : t < 400) (y : Int32) : ∃ τ, fX5_write b y σ = some τ ∧ CK b (t + 1) aw pt o wr W rs c (C ++ [y]) so lo x τ ∧ frS b σ τ := by
  obtain ⟨a1, a2, a3, a4, a5, a6, a7, a8, a9, b1, b2, b3, b4⟩ := h
  refine ⟨_, write_eq y (by omega) b1, ?_, (frS.rf.i hb (by omega)).i hb (by omega)⟩
  have g : ∀ k j, k ≠ b → k ≠ b + 6 → gi (sI (sI σ (b + 6) (c + C.length) y) b 8 (nI (c + C.length + 1))) k j = gi σ k j := fun k j q1 q2 => by rw [gi_ne q1, gi_ne q2]
  have g6 : ∀ j, j < c + C.length → gi (sI (sI σ (b + 6) (c + C.length) y) b 8 (nI (c + C.length + 1))) (b + 6) j = gi σ (b + 6) j := fun j q => by rw [gi_ne (by omega), gi_nj (by omega)]
  refine ⟨by rw [g _ _ (by omega) (by omega)]; exact a1, fun z => by rw [g _ _ (by omega) (by omega)]; exact a2 z, by rw [g _ _ (by omega) (by omega)]; exact a3, by rw [g _ _ (by omega) (by omega)]; exact a4, by rw [g _ _ (by omega) (by omega)]; exact a5, by rw [g _ _ (by omega) (by omega)]; exact a6, ⟨by rw [g _ _ (by omega) (by omega)]; exact a7.1, stk_congr (fun j _ => g _ _ (by omega) (by omega)) a7.2⟩, ?_, bkP_fr (fun j q => g6 j (by omega)) (Nat.le_refl _) (fun i i1 i2 j _ => g _ _ (by omega) (by omega)) a9, ?_, ?_, ?_, fun z => ?_⟩
  · rw [gi_nj (by decide), gi_ne (by omega)]; exact a8
  · rw [gi_eq, List.length_append]; rfl
  · rw [List.length_append]; simp only [List.length_cons, List.length_nil]; omega
  · refine sgL_app.mpr ⟨sgL_congr (fun j _ q => g6 j q) b3, ?_, trivial⟩
    rw [gi_ne (by omega), gi_eq]
  · rw [g _ _ (by omega) (by omega), g _ _ (by omega) (by omega), g _ _ (by omega) (by omega), g _ _ (by omega) (by omega)]
    exact b4 z
/-- a sign is held -/
theorem CK.hold {b t aw pt o c so : Nat} {wr lo x : Int32} {W : List Nat} {rs : List RU} {C : List Int32} {σ : PS} (hb : b = 116 ∨ b = 124) (h : CK b t aw pt o wr W rs c C so lo x σ) (hW : W.length < 32) (k : Nat) : ∃ τ, fX4_hold (nI k) σ = some τ ∧ CK b (t + 1) aw pt o wr (k :: W) rs c C so lo x τ ∧ frS b σ τ := by
  obtain ⟨a1, a2, a3, a4, a5, a6, a7, a8, a9, b1, b2, b3, b4⟩ := h
  have e : fX4_hold (nI k) σ = some (sI (sI σ 39 W.length (nI k)) 38 2 (nI (W.length + 1))) := by
    unfold fX4_hold
    rw [a7.1, if_neg (l_nle (k := 32) (by rfl) hW (by decide)), gd_t (inb_nI hW (by decide)), nI_clamp (by omega), gi_ne (by decide), a7.1, nI_1]
  refine ⟨_, e, ?_, (frS.rf.i hb (by omega)).i hb (by omega)⟩
  have g : ∀ k' j, k' ≠ 39 → (k' = 38 → j ≠ 2) → gi (sI (sI σ 39 W.length (nI k)) 38 2 (nI (W.length + 1))) k' j = gi σ k' j := by
    intro k' j q1 q2
    by_cases z : k' = 38
    · subst z; rw [gi_nj (q2 rfl), gi_ne (by decide)]
    · rw [gi_ne z, gi_ne q1]
  have n38 : ∀ i, b + i ≠ 38 := fun i => by omega
  refine ⟨by rw [g _ _ (by decide) (by intro _; decide)]; exact a1, fun z => by rw [g _ _ (by decide) (by intro _; decide)]; exact a2 z, by rw [g _ _ (by decide) (by intro _; decide)]; exact a3, by rw [g _ _ (by decide) (by intro _; decide)]; exact a4, by rw [g _ _ (by decide) (by intro _; decide)]; exact a5, by rw [g _ _ (by decide) (by intro _; decide)]; exact a6, ⟨gi_eq, ?_, ?_⟩, by rw [g _ _ (by omega) (by omega)]; exact a8, bkP_fr (fun j q => g _ _ (by omega) (by omega)) (Nat.le_refl _) (fun i i1 i2 j _ => g _ _ (by omega) (by omega)) a9, by rw [g _ _ (by omega) (by omega)]; exact b1, ?_, sgL_congr (fun j _ q => g _ _ (by omega) (by omega)) b3, fun z => ?_⟩
  · rw [gi_ne (by decide), List.length_map, gi_eq]
  · refine stk_congr (fun j q => ?_) a7.2
    rw [List.length_map] at q
    rw [gi_ne (by decide), gi_nj (by omega)]
  · simp only [List.length_cons]; omega
  · rw [g _ _ (by omega) (by omega), g _ _ (by omega) (by omega), g _ _ (by omega) (by omega), g _ _ (by omega) (by omega)]
    exact b4 z
theorem stk_rel {f : Nat → Int32} (r : Nat) : ∀ {W : List Nat}, stk f (W.map nI) → stk f ((relR r W).map nI) := by
  intro W
  induction W with
  | nil => intro h; exact h
  | cons k W ih =>
    intro h
    simp only [relR]
    split
    · exact h
    · exact ih h.2
/-- what waits is let out -/
theorem CK.rel {b t aw pt o c so : Nat} {wr lo x : Int32} {W : List Nat} {rs : List RU} {C : List Int32} {σ : PS} (hb : b = 116 ∨ b = 124) (h : CK b t aw pt o wr W rs c C so lo x σ) (ht : t ≤ 400) (hW : W.length ≤ 32) (hW2 : ∀ k ∈ W, k ≤ 26) {r : Nat} (hr : 1 ≤ r) (hr5 : r ≤ 5) : hO (fX4_release b (nI r) σ) (fun τ => CK b t aw pt o wr (relR r W) rs c (C ++ relE r W) so lo x τ ∧ frS b σ τ) := by
  obtain ⟨a1, a2, a3, a4, a5, a6, a7, a8, a9, b1, b2, b3, b4⟩ := h
  unfold fX4_release
  obtain ⟨m, hm⟩ := FU_k (W.length + 1) (by omega)
  rw [hm, show m + (W.length + 1) = m + W.length + 1 by omega]
  refine (release_ok hb r hr hr5 W m (c + C.length) σ hW2 hW (by omega) a7.1 a7.2 b1).mono (fun τ ⟨t1, t2, t3, t4, t5⟩ => ⟨?_, ⟨⟨fun k j q1 q2 q3 q4 => t1.1 k j (by omega) (by omega) (by omega), t1.2⟩, fun j => t1.1 40 j (by omega) (by omega) (by omega)⟩⟩)
  have hl := rel_len r W
  have g : ∀ k j, k ≠ b + 6 → k ≠ b → k ≠ 38 → gi τ k j = gi σ k j := fun k j q1 q2 q3 => t1.1 k j q1 (fun z => absurd z q2) (fun z => absurd z q3)
  have g38 : ∀ j, j ≠ 2 → gi τ 38 j = gi σ 38 j := fun j q => t1.1 38 j (by omega) (by omega) (fun _ => q)
  refine ⟨by rw [g38 _ (by decide)]; exact a1, fun z => by rw [g38 _ (by decide)]; exact a2 z, by rw [g38 _ (by decide)]; exact a3, by rw [g38 _ (by decide)]; exact a4, by rw [g38 _ (by decide)]; exact a5, by rw [g38 _ (by decide)]; exact a6, ⟨t2, stk_rel r (stk_congr (fun j _ => g 39 j (by omega) (by omega) (by decide)) a7.2)⟩, by rw [t1.1 b 7 (by omega) (by intro _; decide) (by omega)]; exact a8, bkP_fr (fun j q => t5 j (by omega)) (Nat.le_refl _) (fun i i1 i2 j _ => g _ _ (by omega) (by omega) (by omega)) a9, by rw [t3, List.length_append, Nat.add_assoc], ?_, sgL_app.mpr ⟨sgL_congr (fun j _ q => t5 j q) b3, t4⟩, fun z => ?_⟩
  · rw [List.length_append]; omega
  · rw [g _ _ (by omega) (by omega) (by omega), g _ _ (by omega) (by omega) (by omega), g _ _ (by omega) (by omega) (by omega), g _ _ (by omega) (by omega) (by omega)]
    exact b4 z
