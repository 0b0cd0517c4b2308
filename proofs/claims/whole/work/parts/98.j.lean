/-! the reference's rules on a side, bounded -/
def reQ (σ : PS) (s c f : Nat) (r : RE) : Prop := gi σ 148 (200 * s + f) = nI r.2.1 ∧ gi σ 152 (200 * s + f) = tb (r.1) ∧ ∃ p, gi σ 149 (200 * s + f) = nI p ∧ gi σ 150 (200 * s + f) = nI (p + r.2.2.1.length) ∧ gi σ 151 (200 * s + f) = nI (p + r.2.2.1.length + r.2.2.2.length) ∧ 500 * s ≤ p ∧ p + r.2.2.1.length + r.2.2.2.length ≤ 500 * s + c ∧ sgM (gi σ 153) (gi σ 154) p r.2.2.1 ∧ sgM (gi σ 153) (gi σ 154) (p + r.2.2.1.length) r.2.2.2
def rlP (σ : PS) (s c f : Nat) (l : List RE) : Prop := ∀ i r, l[i]? = some r → reQ σ s c (f + i) r
def ruQ (σ : PS) (s c g k : Nat) (r : RU) : Prop := gi σ 141 (20 * s + k) = nI r.1 ∧ gi σ 142 (20 * s + k) = (if r.1 = 0 then -1 else r.2.1) ∧ (∃ p, gi σ 143 (20 * s + k) = nI p ∧ gi σ 144 (20 * s + k) = nI (p + r.2.2.1.length) ∧ 500 * s ≤ p ∧ p + r.2.2.1.length ≤ 500 * s + c ∧ sgM (gi σ 153) (gi σ 154) p r.2.2.1) ∧ ∃ f, gi σ 145 (20 * s + k) = nI f ∧ gi σ 146 (20 * s + k) = nI (f + r.2.2.2.length) ∧ f + r.2.2.2.length ≤ g ∧ rlP σ s c f r.2.2.2
def bmP (σ : PS) (s c g : Nat) (rs : List RU) : Prop := ∀ k r, rs[k]? = some r → ruQ σ s c g k r
def sameR (s n g c : Nat) (σ τ : PS) : Prop := (∀ k i, 141 ≤ k → k ≤ 146 → i < n → gi τ k (20 * s + i) = gi σ k (20 * s + i)) ∧ (∀ k f, 148 ≤ k → k ≤ 152 → f < g → gi τ k (200 * s + f) = gi σ k (200 * s + f)) ∧ ∀ j, 500 * s ≤ j → j < 500 * s + c → gi τ 153 j = gi σ 153 j ∧ gi τ 154 j = gi σ 154 j
theorem get_lt {α : Type} {l : List α} {i : Nat} {r : α} (h : l[i]? = some r) : i < l.length := by
  by_cases z : i < l.length
  · exact z
  · rw [List.getElem?_eq_none (by omega)] at h; cases h
theorem reQ_fr {σ τ : PS} {s c d f : Nat} {r : RE} (h : reQ σ s c f r) (h1 : ∀ k, 148 ≤ k → k ≤ 152 → gi τ k (200 * s + f) = gi σ k (200 * s + f)) (h2 : ∀ j, 500 * s ≤ j → j < 500 * s + c → gi τ 153 j = gi σ 153 j ∧ gi τ 154 j = gi σ 154 j) (hd : c ≤ d) : reQ τ s d f r := by
  obtain ⟨a1, a2, p, a3, a4, a5, a6, a7, a8, a9⟩ := h
  refine ⟨by rw [h1 _ (by decide) (by decide)]; exact a1, by rw [h1 _ (by decide) (by decide)]; exact a2, p, by rw [h1 _ (by decide) (by decide)]; exact a3, by rw [h1 _ (by decide) (by decide)]; exact a4, by rw [h1 _ (by decide) (by decide)]; exact a5, a6, by omega, sgM_congr (fun j q1 q2 => h2 j (by omega) (by omega)) a8, sgM_congr (fun j q1 q2 => h2 j (by omega) (by omega)) a9⟩
theorem rlP_fr {σ τ : PS} {s n g c d f : Nat} {l : List RE} (h : rlP σ s c f l) (hs : sameR s n g c σ τ) (hf : f + l.length ≤ g) (hd : c ≤ d) : rlP τ s d f l := by
  intro i r hi
  have hl := get_lt hi
  exact reQ_fr (h i r hi) (fun k k1 k2 => hs.2.1 k (f + i) k1 k2 (by omega)) hs.2.2 hd
theorem bmP_fr {σ τ : PS} {s g g' c d : Nat} {rs : List RU} (h : bmP σ s c g rs) (hs : sameR s rs.length g c σ τ) (hd : c ≤ d) (hg : g ≤ g') : bmP τ s d g' rs := by
  intro k r hk
  have hl := get_lt hk
  obtain ⟨a1, a2, ⟨p, a3, a4, a5, a6, a7⟩, f, b1, b2, b3, b4⟩ := h k r hk
  refine ⟨by rw [hs.1 _ _ (by decide) (by decide) hl]; exact a1, by rw [hs.1 _ _ (by decide) (by decide) hl]; exact a2, ⟨p, by rw [hs.1 _ _ (by decide) (by decide) hl]; exact a3, by rw [hs.1 _ _ (by decide) (by decide) hl]; exact a4, a5, by omega, sgM_congr (fun j q1 q2 => hs.2.2 j (by omega) (by omega)) a7⟩, f, by rw [hs.1 _ _ (by decide) (by decide) hl]; exact b1, by rw [hs.1 _ _ (by decide) (by decide) hl]; exact b2, by omega, rlP_fr b4 hs (by omega) hd⟩
theorem snoc_get {α : Type} {l : List α} {x r : α} {k : Nat} (h : (l ++ [x])[k]? = some r) : (k < l.length ∧ l[k]? = some r) ∨ (k = l.length ∧ x = r) := by
  by_cases z : k < l.length
  · rw [List.getElem?_append_left z] at h; exact Or.inl ⟨z, h⟩
  · rw [List.getElem?_append_right (by omega)] at h
    by_cases y : k = l.length
    · rw [y, Nat.sub_self] at h
      exact Or.inr ⟨y, by simpa using h⟩
    · rw [List.getElem?_eq_none (by simp; omega)] at h; cases h
theorem rlP_M {σ : PS} {s c : Nat} (hs : s ≤ 1) (hc : c ≤ 500) : ∀ {l : List RE} {f : Nat}, rlP σ s c f l → rlM σ s f l := by
  intro l
  induction l with
  | nil => intro f _; trivial
  | cons r l ih =>
    intro f h
    obtain ⟨a1, a2, p, a3, a4, a5, a6, a7, a8, a9⟩ := h 0 r rfl
    refine ⟨⟨a1, a2, p, a3, a4, a5, by omega, a8, a9⟩, ih (fun i x hi => ?_)⟩
    rw [show f + 1 + i = f + (i + 1) by omega]
    exact h (i + 1) x (by rw [List.getElem?_cons_succ]; exact hi)
theorem bmP_R {σ : PS} {s c g : Nat} (hs : s ≤ 1) (hc : c ≤ 500) (hg : g ≤ 200) : ∀ {l : List RU} {k : Nat}, (∀ i r, l[i]? = some r → ruQ σ s c g (k + i) r) → bmR σ s k l := by
  intro l
  induction l with
  | nil => intro k _; trivial
  | cons r l ih =>
    intro k h
    obtain ⟨a1, a2, ⟨p, a3, a4, a5, a6, a7⟩, f, b1, b2, b3, b4⟩ := h 0 r rfl
    refine ⟨⟨a1, a2, ⟨p, a3, a4, by omega, a7⟩, f, b1, b2, by omega, rlP_M hs hc b4⟩, ih (fun i x hi => ?_)⟩
    rw [show k + 1 + i = k + (i + 1) by omega]
    exact h (i + 1) x (by rw [List.getElem?_cons_succ]; exact hi)
/-- the codes of a side lie in its half -/
def CRn (s n g : Nat) (σ : PS) : Prop := (n ≤ 20 ∧ g ≤ 200 ∧ gi σ 140 s = nI n ∧ gi σ 147 s = nI g) ∧ (∀ k, k < n → isN (gi σ 143 (20 * s + k)) (500 * s) (500 * s + 500) ∧ isN (gi σ 144 (20 * s + k)) (500 * s) (500 * s + 500) ∧ isN (gi σ 146 (20 * s + k)) 0 g) ∧ ∀ f, f < g → isN (gi σ 149 (200 * s + f)) (500 * s) (500 * s + 500) ∧ isN (gi σ 150 (200 * s + f)) (500 * s) (500 * s + 500) ∧ isN (gi σ 151 (200 * s + f)) (500 * s) (500 * s + 500)
theorem CRn_fr {s n g : Nat} {σ τ : PS} (h : CRn s n g σ) (h0 : gi τ 140 s = gi σ 140 s) (h7 : gi τ 147 s = gi σ 147 s) (h1 : ∀ k i, 141 ≤ k → k ≤ 146 → i < n → gi τ k (20 * s + i) = gi σ k (20 * s + i)) (h2 : ∀ k f, 148 ≤ k → k ≤ 152 → f < g → gi τ k (200 * s + f) = gi σ k (200 * s + f)) : CRn s n g τ := by
  obtain ⟨⟨a1, a2, a3, a4⟩, a5, a6⟩ := h
  refine ⟨⟨a1, a2, by rw [h0]; exact a3, by rw [h7]; exact a4⟩, fun k hk => ?_, fun f hf => ?_⟩
  · rw [h1 _ _ (by decide) (by decide) hk, h1 _ _ (by decide) (by decide) hk, h1 _ _ (by decide) (by decide) hk]
    exact a5 k hk
  · rw [h2 _ _ (by decide) (by decide) hf, h2 _ _ (by decide) (by decide) hf, h2 _ _ (by decide) (by decide) hf]
    exact a6 f hf
def RG (s c g : Nat) (σ : PS) : Prop := ∀ f, f < g → isN (gi σ 149 (200 * s + f)) (500 * s) (500 * s + c) ∧ isN (gi σ 150 (200 * s + f)) (500 * s) (500 * s + c) ∧ isN (gi σ 151 (200 * s + f)) (500 * s) (500 * s + c)
def RW (P : Nat → Nat) (t : Nat) (wr : Int32) (σ : PS) : Prop := (wr = -1 ∧ gi σ 132 15 = 0) ∨ ∃ q, q < t ∧ wr = nI (P q) ∧ gi σ 132 15 = 5 ∧ gi σ 132 16 = wr
def RC (K P : Nat → Nat) (V : Nat → Int32) (s t c g : Nat) (rs : List RU) (wr : Int32) (σ : PS) : Prop := (t ≤ 400 ∧ ∀ j, j < t → K j ≠ 0) ∧ (gi σ 132 11 = nI t ∧ gi σ 132 12 = 0 ∧ gi σ 132 13 = 0 ∧ gi σ 132 19 = nI s ∧ gi σ 132 33 = nI (500 * s + c)) ∧ RW P t wr σ ∧ (c ≤ t ∧ 3 * g ≤ t) ∧ (rs.length ≤ 20 ∧ gi σ 140 s = nI rs.length ∧ gi σ 147 s = nI g) ∧ bmP σ s c g rs ∧ RG s c g σ ∧ TKN K P V σ
theorem isN_up {x : Int32} {a b c : Nat} (h : isN x a b) (hb : b ≤ c) : isN x a c := by
  obtain ⟨k, h1, h2, h3⟩ := h
  exact ⟨k, h1, h2, by omega⟩
theorem RC.crn {K P : Nat → Nat} {V : Nat → Int32} {s t c g : Nat} {rs : List RU} {wr : Int32} {σ : PS} (h : RC K P V s t c g rs wr σ) : CRn s rs.length g σ := by
  obtain ⟨⟨h1, h2⟩, _, _, ⟨h4, h5⟩, ⟨h6, h7, h8⟩, h9, h10, _⟩ := h
  refine ⟨⟨h6, by omega, h7, h8⟩, fun k hk => ?_, fun f hf => ?_⟩
  · obtain ⟨r, hr⟩ : ∃ r, rs[k]? = some r := ⟨rs[k], List.getElem?_eq_getElem hk⟩
    obtain ⟨a1, a2, ⟨p, a3, a4, a5, a6, a7⟩, f, b1, b2, b3, b4⟩ := h9 k r hr
    exact ⟨⟨p, a3, a5, by omega⟩, ⟨_, a4, by omega, by omega⟩, ⟨_, b2, by omega, by omega⟩⟩
  · obtain ⟨q1, q2, q3⟩ := h10 f hf
    exact ⟨isN_up q1 (by omega), isN_up q2 (by omega), isN_up q3 (by omega)⟩
theorem RG_fr {s c d g n : Nat} {σ τ : PS} (h : RG s c g σ) (hs : sameR s n g c σ τ) (hd : c ≤ d) : RG s d g τ := by
  intro f hf
  rw [hs.2.1 _ _ (by decide) (by decide) hf, hs.2.1 _ _ (by decide) (by decide) hf, hs.2.1 _ _ (by decide) (by decide) hf]
  obtain ⟨q1, q2, q3⟩ := h f hf
  exact ⟨isN_up q1 (by omega), isN_up q2 (by omega), isN_up q3 (by omega)⟩
theorem RW_fr {P : Nat → Nat} {t u : Nat} {wr : Int32} {σ τ : PS} (h : RW P t wr σ) (hu : t ≤ u) (h1 : gi τ 132 15 = gi σ 132 15) (h2 : gi τ 132 16 = gi σ 132 16) : RW P u wr τ := by
  rcases h with ⟨a, b⟩ | ⟨q, a, b, c, d⟩
  · exact Or.inl ⟨a, by rw [h1]; exact b⟩
  · exact Or.inr ⟨q, by omega, b, by rw [h1]; exact c, by rw [h2]; exact d⟩
theorem TKN_fr {K P : Nat → Nat} {V : Nat → Int32} {σ τ : PS} (h : TKN K P V σ) (h1 : ∀ k j, 135 ≤ k → k ≤ 137 → gi τ k j = gi σ k j) : TKN K P V τ := by
  intro i hi hz
  rw [h1 135 i (by decide) (by decide), h1 136 i (by decide) (by decide), h1 137 i (by decide) (by decide)]
  exact h i hi hz
/-- from one place to a later one, with nothing told of rules -/
theorem RC.go {K P : Nat → Nat} {V : Nat → Int32} {s t c g t' c' : Nat} {rs : List RU} {wr : Int32} {σ τ : PS} (h : RC K P V s t c g rs wr σ) (ht : t ≤ t') (ht' : t' ≤ 400) (hz : ∀ j, j < t' → K j ≠ 0) (hc : c ≤ c') (hc' : c' ≤ t') (e11 : gi τ 132 11 = nI t') (e12 : gi τ 132 12 = 0) (e13 : gi τ 132 13 = 0) (e33 : gi τ 132 33 = nI (500 * s + c')) (e15 : gi τ 132 15 = gi σ 132 15) (e16 : gi τ 132 16 = gi σ 132 16) (e19 : gi τ 132 19 = gi σ 132 19) (e0 : gi τ 140 s = gi σ 140 s) (e7 : gi τ 147 s = gi σ 147 s) (hs : sameR s rs.length g c σ τ) (hk : ∀ k j, 135 ≤ k → k ≤ 137 → gi τ k j = gi σ k j) : RC K P V s t' c' g rs wr τ := by
  obtain ⟨⟨h1, h2⟩, ⟨i1, i2, i3, i4, i5⟩, h3, ⟨h4, h5⟩, ⟨h6, h7, h8⟩, h9, h10, h11⟩ := h
  exact ⟨⟨ht', hz⟩, ⟨e11, e12, e13, by rw [e19]; exact i4, e33⟩, RW_fr h3 ht e15 e16, ⟨hc', by omega⟩, ⟨h6, by rw [e0]; exact h7, by rw [e7]; exact h8⟩, bmP_fr h9 hs hc (Nat.le_refl _), RG_fr h10 hs hc, TKN_fr h11 hk⟩
theorem okE_sr {s c n g : Nat} {σ τ : PS} (h : frR (okE s c) σ τ) : sameR s n g c σ τ := ⟨fun k i k1 k2 _ => h.1 k _ (by unfold okE; omega), fun k f k1 k2 _ => h.1 k _ (by unfold okE; omega), fun j j1 j2 => ⟨h.1 153 j (by unfold okE; omega), h.1 154 j (by unfold okE; omega)⟩⟩
theorem RC.ex {K P : Nat → Nat} {V : Nat → Int32} {s t c g t' c' : Nat} {rs : List RU} {wr : Int32} {σ τ : PS} (h : RC K P V s t c g rs wr σ) (fr : frR (okE s c) σ τ) (ht : t ≤ t') (ht' : t' ≤ 400) (hz : ∀ j, j < t' → K j ≠ 0) (hc : c ≤ c') (hc' : c' ≤ t') (e11 : gi τ 132 11 = nI t') (e12 : gi τ 132 12 = 0) (e13 : gi τ 132 13 = 0) (e33 : gi τ 132 33 = nI (500 * s + c')) : RC K P V s t' c' g rs wr τ := h.go ht ht' hz hc hc' e11 e12 e13 e33 (fr.1 _ _ (by unfold okE; omega)) (fr.1 _ _ (by unfold okE; omega)) (fr.1 _ _ (by unfold okE; omega)) (fr.1 _ _ (by unfold okE; omega)) (fr.1 _ _ (by unfold okE; omega)) (okE_sr fr) (fun k j k1 k2 => fr.1 k j (by unfold okE; omega))
theorem RC.next {K P : Nat → Nat} {V : Nat → Int32} {s t c g : Nat} {rs : List RU} {wr : Int32} {σ : PS} (h : RC K P V s t c g rs wr σ) (ht : t < 400) (h0 : K t ≠ 0) : RC K P V s (t + 1) c g rs wr (sI σ 132 11 (nI (t + 1))) := by
  obtain ⟨⟨h1, h2⟩, ⟨i1, i2, i3, i4, i5⟩, h3, ⟨h4, h5⟩, h6⟩ := id h
  refine h.ex (frR.rf.i (by unfold okE; omega)) (by omega) (by omega) (fun j hj => ?_) (by omega) (by omega) gi_eq (by rw [gi_nj (by decide)]; exact i2) (by rw [gi_nj (by decide)]; exact i3) (by rw [gi_nj (by decide)]; exact i5)
  by_cases z : j = t
  · rw [z]; exact h0
  · exact h2 j (by omega)
theorem RC.tok {K P : Nat → Nat} {V : Nat → Int32} {s t c g : Nat} {rs : List RU} {wr : Int32} {σ : PS} (h : RC K P V s t c g rs wr σ) : RK (K t) (gi σ 135 t) ∧ gi σ 136 t = nI (P t) ∧ (K t = 2 → gi σ 137 t = V t) := h.2.2.2.2.2.2.2 t h.1.1 h.1.2
/-- behind a fault, at the level of rules -/
def RX (s n g : Nat) (F : FQ) (σ : PS) : Prop := FL F σ ∧ CRn s n g σ
theorem RX.ex {s n g c : Nat} {F : FQ} {σ τ : PS} (h : CRn s n g σ) (fr : frR (okE s c) σ τ) (f : FL F τ) : RX s n g F τ := ⟨f, CRn_fr h (fr.1 _ _ (by unfold okE; omega)) (fr.1 _ _ (by unfold okE; omega)) (fun k i k1 k2 _ => fr.1 k _ (by unfold okE; omega)) (fun k i k1 k2 _ => fr.1 k _ (by unfold okE; omega))⟩
/-- a fault is told -/
theorem RC.fail {K P : Nat → Nat} {V : Nat → Int32} {s t c g f : Nat} {rs : List RU} {wr : Int32} {σ : PS} (h : RC K P V s t c g rs wr σ) (hf : f ≠ 0) (hf2 : f ≤ 2) (F : FQ) (hF : F = (f, P t, [], -1)) : fX9_fail (nI f) σ = some (sI (sI σ 132 13 (nI f)) 132 14 (nI (P t))) ∧ RX s rs.length g F (sI (sI σ 132 13 (nI f)) 132 14 (nI (P t))) := by
  refine ⟨fail_eq h.2.1.2.2.1 h.1.1 h.2.1.1 h.tok.2.1, RX.ex (c := c) h.crn ((frR.rf.i (by unfold okE; omega)).i (by unfold okE; omega)) ?_⟩
  rw [hF]
  exact ⟨⟨hf, hf2⟩, by rw [gi_nj (by decide), gi_eq], gi_eq, t, h.1.1, by rw [gi_nj (by decide), gi_nj (by decide)]; exact h.2.1.1⟩
theorem RC.nextE {K P : Nat → Nat} {V : Nat → Int32} {s t c g : Nat} {rs : List RU} {wr : Int32} {σ : PS} (h : RC K P V s t c g rs wr σ) (ht : t = 400) (F : FQ) (hF : F = (2, P t, [], -1)) : fX9_next σ = some (sI (sI σ 132 13 2) 132 14 (nI (P t))) ∧ RX s rs.length g F (sI (sI σ 132 13 2) 132 14 (nI (P t))) := by
  have := h.fail (f := 2) (by decide) (by decide) F hF
  refine ⟨?_, this.2⟩
  subst ht
  exact next_end h.2.1.2.2.1 h.2.1.1 h.tok.2.1
