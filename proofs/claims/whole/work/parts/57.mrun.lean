/-! the reference's evaluation of a rule -/
def sgM (f g : Nat → Int32) : Nat → List IT → Prop
  | _, [] => True
  | p, q :: l => f p = nI q.1 ∧ g p = q.2 ∧ sgM f g (p + 1) l
theorem sgM_congr {f g f' g' : Nat → Int32} {l : List IT} : ∀ {p : Nat}, (∀ j, p ≤ j → j < p + l.length → f' j = f j ∧ g' j = g j) → sgM f g p l → sgM f' g' p l := by
  induction l with
  | nil => intro p _ _; trivial
  | cons a l ih =>
    intro p h hs
    simp only [List.length_cons] at h
    have h0 := h p (by omega) (by omega)
    exact ⟨by rw [h0.1]; exact hs.1, by rw [h0.2]; exact hs.2.1, ih (fun j h1 h2 => h j (by omega) (by omega)) hs.2.2⟩
theorem mpush {σ : PS} {s : List Int32} {x : Int32} (hs : stk (gi σ 188) s) : stk (gi (sI σ 188 s.length x) 188) (x :: s) := by
  refine ⟨gi_eq, stk_congr (fun j hj => ?_) hs⟩
  rw [gi_nj (by omega)]
theorem value_ok (v : Nat → Int32) {M : Nat} (hM : M ≤ 500) : ∀ (l : List IT) (s : List Int32) (p m d' : Nat) (σ : PS), (∀ q ∈ l, wfI q) → dpI M s.length l d' → s.length ≤ 500 → sgM (gi σ 153) (gi σ 154) p l → p + l.length ≤ 1000 → stk (gi σ 188) s → (∀ k, k < 8 → gi σ 187 k = v k) → hO (fX9_value_5 (m + l.length + 1) (nI (p + l.length)) (nI s.length) (nI p) σ) (fun q => evI v l s ≠ [] → q.1 = (evI v l s).getLastD 0) := by
  intro l
  induction l with
  | nil =>
    intro s p m d' σ hw hd hl hg hp hs hv
    rw [fX9_value_5, if_pos (nI_le (by simp) (by simp only [List.length_nil] at hp ⊢; omega)), gd_t (by decide)]
    refine ⟨_, rfl, ?_⟩
    show s ≠ [] → gi σ 188 0 = s.getLastD 0
    match s, hs with
    | [], _ => intro h; exact absurd rfl h
    | a :: s, hs => intro _; exact stk_last hs
  | cons q l ih =>
    intro s p m d' σ hw hd hl hg hp hs hv
    have hq := hw q List.mem_cons_self
    have hw' := (fun r h => hw r (List.mem_cons_of_mem _ h) : ∀ r ∈ l, wfI r)
    simp only [List.length_cons] at hp ⊢
    rw [show m + (l.length + 1) + 1 = (m + l.length + 1) + 1 by omega, fX9_value_5, if_neg (nI_ge (by omega) (by omega)), gd_t (inb_nI (by omega) (by omega)), nI_clamp (by omega), hg.1, hg.2.1, show p + (l.length + 1) = (p + 1) + l.length by omega]
    obtain ⟨k, x⟩ := q
    have hg2 := hg.2.2
    simp only [dpI] at hd
    simp only [evI]
    have hk4 : k ≤ 4 := by
      rcases hq with ⟨a, _⟩ | ⟨a, _⟩ | ⟨a, b⟩ <;> simp only at a <;> (try simp only at b) <;> omega
    have congr1 : ∀ y j, sgM (gi (sI σ 188 j y) 153) (gi (sI σ 188 j y) 154) (p + 1) l := fun y j => sgM_congr (fun j _ _ => ⟨gi_ne (by decide), gi_ne (by decide)⟩) hg2
    have congr2 : ∀ y j, ∀ k, k < 8 → gi (sI σ 188 j y) 187 k = v k := fun y j k hk => by rw [gi_ne (by decide)]; exact hv k hk
    by_cases hk : k < 2
    · rw [if_pos hk] at hd
      rw [if_neg (l_nle (k := 2) (by rfl) hk (by decide)), gd_t (inb_nI (by omega) (by omega))]
      have : k = 0 ∨ k = 1 := by omega
      rcases this with rfl | rfl
      · rw [if_pos (show (0 : Nat) = 0 from rfl), gd_t (inb_nI (by omega) (by omega)), if_pos nI_0]
        unfold fX9_value_59
        rw [gd_t (inb_nI (by omega) (by omega)), nI_clamp (by omega)]
        unfold fX9_value_138
        rw [nI_1, nI_1]
        exact ih (x :: s) (p + 1) m d' _ hw' hd.2 (by simp only [List.length_cons]; omega) (congr1 _ _) (by omega) (mpush hs) (congr2 _ _)
      · rw [if_neg (show ¬ (1 : Nat) = 0 by decide), if_pos (show (1 : Nat) = 1 from rfl), gd_t (inb_nI (by omega) (by omega)), if_neg (show ¬ nI 1 = 0 by decide)]
        have hx : isN x 0 7 := by
          rcases hq with ⟨a, _⟩ | ⟨a, b⟩ | ⟨a, b⟩
          · cases a
          · exact b
          · simp only at a; omega
        obtain ⟨i, rfl, -, hi⟩ := hx
        rw [gd_t (inb_nI (by omega) (by omega)), gd_t (inb_nI (by omega) (by decide)), nI_clamp (by omega), hv i (by omega)]
        unfold fX9_value_59
        rw [gd_t (inb_nI (by omega) (by omega)), nI_clamp (by omega)]
        unfold fX9_value_138
        rw [nI_1, nI_1]
        exact ih (v i :: s) (p + 1) m d' _ hw' hd.2 (by simp only [List.length_cons]; omega) (congr1 _ _) (by omega) (mpush hs) (congr2 _ _)
    · rw [if_neg hk] at hd
      rw [if_pos (l_le (k := 2) (by rfl) (by omega) (by omega)), if_neg (show ¬ k = 0 by omega), if_neg (show ¬ k = 1 by omega)]
      match s, hd, hs, hl with
      | b :: a :: s, hd, hs, hl =>
        simp only [List.length_cons] at hd hl ⊢
        have e1 : nI (s.length + 1 + 1) + (-1) = nI (s.length + 1) := nI_a1 (by omega)
        have e2 : nI (s.length + 1) - 1 = nI s.length := nI_pred _
        rw [e1, e2]
        unfold fX9_value_137 fX9_value_138
        repeat rw [gd_t (inb_nI (by omega) (by omega))]
        rw [nI_clamp (by omega), nI_clamp (by omega), hs.2.1, show gi σ 188 (s.length + 1) = b from hs.1, nI_1]
        have hh := fun y => ih (y :: s) (p + 1) m d' (sI σ 188 s.length y) hw' hd.2 (by simp only [List.length_cons]; omega) (congr1 _ _) (by omega) (mpush hs.2.2) (congr2 _ _)
        have : k = 2 ∨ k = 3 ∨ k = 4 := by omega
        rcases this with rfl | rfl | rfl
        · rw [if_pos (show nI 2 = 2 from rfl)]
          exact hh (a + b)
        · rw [if_neg (show ¬ nI 3 = 2 by decide), if_pos (show nI 3 = 3 from rfl)]
          exact hh (a - b)
        · rw [if_neg (show ¬ nI 4 = 2 by decide), if_neg (show ¬ nI 4 = 3 by decide)]
          exact hh (a * b)
theorem value_all (v : Nat → Int32) {l : List IT} {p : Nat} {σ : PS} (hw : wfX l) (hg : sgM (gi σ 153) (gi σ 154) p l) (hp : p + l.length ≤ 1000) (hv : ∀ k, k < 8 → gi σ 187 k = v k) : hO (fX9_value (nI p) (nI (p + l.length)) σ) (fun q => q.1 = valS v l ∧ FRM SX9_value σ q.2) := by
  refine hO.and ?_ (fun a e => frX9_value _ _ _ _ e)
  unfold fX9_value
  obtain ⟨m, hm⟩ := FU_k (l.length + 1) (by omega)
  rw [hm]
  have h := value_ok v (M := 16) (by decide) l [] p m 1 σ hw.1 hw.2 (by simp) hg hp trivial hv
  refine h.mono (fun q hq => ?_)
  rw [evI_val v hw.2] at hq
  exact hq (by simp)
/-- relations and rules as the reference holds them, on the side s -/
def rlM (σ : PS) (s : Nat) : Nat → List RE → Prop
  | _, [] => True
  | f, r :: l => (gi σ 148 (200 * s + f) = nI r.2.1 ∧ gi σ 152 (200 * s + f) = tb (r.1) ∧ ∃ p, gi σ 149 (200 * s + f) = nI p ∧ gi σ 150 (200 * s + f) = nI (p + r.2.2.1.length) ∧ gi σ 151 (200 * s + f) = nI (p + r.2.2.1.length + r.2.2.2.length) ∧ p + r.2.2.1.length + r.2.2.2.length ≤ 1000 ∧ sgM (gi σ 153) (gi σ 154) p r.2.2.1 ∧ sgM (gi σ 153) (gi σ 154) (p + r.2.2.1.length) r.2.2.2) ∧ rlM σ s (f + 1) l
def ruM (σ : PS) (s k : Nat) (r : RU) : Prop := gi σ 141 (20 * s + k) = nI r.1 ∧ gi σ 142 (20 * s + k) = (if r.1 = 0 then -1 else r.2.1) ∧ (∃ p, gi σ 143 (20 * s + k) = nI p ∧ gi σ 144 (20 * s + k) = nI (p + r.2.2.1.length) ∧ p + r.2.2.1.length ≤ 1000 ∧ sgM (gi σ 153) (gi σ 154) p r.2.2.1) ∧ ∃ f, gi σ 145 (20 * s + k) = nI f ∧ gi σ 146 (20 * s + k) = nI (f + r.2.2.2.length) ∧ f + r.2.2.2.length ≤ 200 ∧ rlM σ s f r.2.2.2
def bmR (σ : PS) (s : Nat) : Nat → List RU → Prop
  | _, [] => True
  | k, r :: l => ruM σ s k r ∧ bmR σ s (k + 1) l
def sameB (σ τ : PS) : Prop := ∀ k, 140 ≤ k → k ≤ 154 → ∀ j, gi τ k j = gi σ k j
theorem sgM_sb {σ τ : PS} (h : sameB σ τ) {p : Nat} {l : List IT} (hs : sgM (gi σ 153) (gi σ 154) p l) : sgM (gi τ 153) (gi τ 154) p l := sgM_congr (fun j _ _ => ⟨h 153 (by decide) (by decide) j, h 154 (by decide) (by decide) j⟩) hs
theorem rlM_sb {σ τ : PS} (h : sameB σ τ) {s : Nat} {l : List RE} : ∀ {f : Nat}, rlM σ s f l → rlM τ s f l := by
  induction l with
  | nil => intro f _; trivial
  | cons r l ih =>
    rintro f ⟨⟨h1, h2, p, h3, h4, h5, h6, h7, h8⟩, h9⟩
    refine ⟨⟨?_, ?_, p, ?_, ?_, ?_, h6, sgM_sb h h7, sgM_sb h h8⟩, ih h9⟩
    · rw [h 148 (by decide) (by decide)]; exact h1
    · rw [h 152 (by decide) (by decide)]; exact h2
    · rw [h 149 (by decide) (by decide)]; exact h3
    · rw [h 150 (by decide) (by decide)]; exact h4
    · rw [h 151 (by decide) (by decide)]; exact h5
theorem ruM_sb {σ τ : PS} (h : sameB σ τ) {s k : Nat} {r : RU} (hr : ruM σ s k r) : ruM τ s k r := by
  obtain ⟨h1, h2, ⟨p, h3, h4, h5, h6⟩, f, h7, h8, h9, h10⟩ := hr
  refine ⟨?_, ?_, ⟨p, ?_, ?_, h5, sgM_sb h h6⟩, f, ?_, ?_, h9, rlM_sb h h10⟩
  · rw [h 141 (by decide) (by decide)]; exact h1
  · rw [h 142 (by decide) (by decide)]; exact h2
  · rw [h 143 (by decide) (by decide)]; exact h3
  · rw [h 144 (by decide) (by decide)]; exact h4
  · rw [h 145 (by decide) (by decide)]; exact h7
  · rw [h 146 (by decide) (by decide)]; exact h8
theorem bmR_sb {σ τ : PS} (h : sameB σ τ) {s : Nat} {l : List RU} : ∀ {k : Nat}, bmR σ s k l → bmR τ s k l := by
  induction l with
  | nil => intro k _; trivial
  | cons r l ih => intro k hr; exact ⟨ruM_sb h hr.1, ih hr.2⟩
theorem bmR_get {σ : PS} {s : Nat} {l : List RU} : ∀ {k i : Nat} {r : RU}, bmR σ s k l → l[i]? = some r → ruM σ s (k + i) r := by
  induction l with
  | nil => intro k i r _ h; simp at h
  | cons a l ih =>
    intro k i r hb h
    cases i with
    | zero => simp at h; subst h; exact hb.1
    | succ i =>
      rw [List.getElem?_cons_succ] at h
      have := ih hb.2 h
      rw [show k + (i + 1) = k + 1 + i by omega]
      exact this
theorem fr_sb {σ τ : PS} (h : FRM SX9_value σ τ) : sameB σ τ := fun k h1 h2 j => h.1 k (by unfold SX9_value inS; simp; omega) j
theorem holds_loop (v : Nat → Int32) (s ri : Nat) (hs : s ≤ 1) (hri : ri < 40) : ∀ (l : List RE) (f m : Nat) (a : Bool) (σ : PS), (∀ q ∈ l, wfR q) → rlM σ s f l → gi σ 146 ri = nI (f + l.length) → f + l.length ≤ 200 → gi σ 132 18 = nI s → (∀ k, k < 8 → gi σ 187 k = v k) → hO (fX9_holds_26 (m + l.length + 1) (nI ri) (tb (a)) (nI f) σ) (fun q => q.1 = tb (allS v a l)) := by
  intro l
  induction l with
  | nil =>
    intro f m a σ hw hr hn hf hs' hv
    rw [fX9_holds_26, gd_t (inb_nI hri (by decide)), nI_clamp (by omega), hn, if_pos (nI_le (by simp) (by simp only [List.length_nil] at hf ⊢; omega)), gd_t is01_tb]
    exact ⟨_, rfl, rfl⟩
  | cons r l ih =>
    intro f m a σ hw hr hn hf hs' hv
    simp only [List.length_cons] at hn hf ⊢
    obtain ⟨⟨h1, h2, p, h3, h4, h5, h6, h7, h8⟩, h9⟩ := hr
    have hwr := hw r List.mem_cons_self
    have ihn := fun (τ : PS) (a : Bool) (a1 : sameB σ τ) (a3 : gi τ 132 18 = nI s) (a2 : ∀ k, k < 8 → gi τ 187 k = v k) => ih (f + 1) m a τ (fun r h => hw r (List.mem_cons_of_mem _ h)) (rlM_sb a1 h9) (by rw [a1 146 (by decide) (by decide), hn]; congr 1; omega) (by omega) a3 a2
    rw [show m + (l.length + 1) + 1 = (m + l.length + 1) + 1 by omega, fX9_holds_26, gd_t (inb_nI hri (by decide)), nI_clamp (by omega), hn, if_neg (nI_ge (by omega) (by omega)), hs', nI200, gd_t (inb_nI (by omega) (by decide)), nI_clamp (by omega), h2]
    have body : ∀ (z : Bool), hO (fX9_holds_76 (fX9_holds_26 (m + l.length + 1)) (nI ri) (tb (z)) (nI f) (nI (200 * s + f)) σ) (fun q => q.1 = tb ((if z = true then allS v (relS v r) l else allS v false l))) := by
      intro z
      unfold fX9_holds_76
      rw [ite_tb]
      cases z with
      | false =>
        rw [if_neg (by decide)]
        unfold fX9_holds_213
        rw [nI_1]
        exact ihn σ false (fun _ _ _ _ => rfl) hs' hv
      | true =>
        rw [if_pos rfl, gd_t (inb_nI (by omega) (by decide)), gd_t (inb_nI (by omega) (by decide)), nI_clamp (by omega), h3, h4]
        refine (value_all v hwr.2.1 h7 (by omega) hv).then ?_
        rintro ⟨y, τ⟩ ⟨hy, hf1⟩
        have b1 := fr_sb hf1
        simp only at hy ⊢
        rw [gd_t (inb_nI (by omega) (by decide)), gd_t (inb_nI (by omega) (by decide)), b1 150 (by decide) (by decide), b1 151 (by decide) (by decide), h4, h5]
        have hv1 : ∀ k, k < 8 → gi τ 187 k = v k := fun k hk => by rw [hf1.1 187 (by decide)]; exact hv k hk
        refine (value_all v hwr.2.2 (sgM_sb b1 h8) (by omega) hv1).then ?_
        rintro ⟨w, υ⟩ ⟨hw', hf2⟩
        have b2 := fr_sb hf2
        simp only at hw' ⊢
        have b3 : sameB σ υ := fun k a b j => (b2 k a b j).trans (b1 k a b j)
        have fin : hO (fX9_holds_212 (fX9_holds_26 (m + l.length + 1)) (nI ri) (nI f) (tb (relS v r)) υ) (fun q => q.1 = tb ((if true = true then allS v (relS v r) l else allS v false l))) := by
          unfold fX9_holds_212 fX9_holds_213
          rw [nI_1, if_pos rfl]
          exact ihn υ (relS v r) b3 (by rw [hf2.1 132 (by decide), hf1.1 132 (by decide)]; exact hs') (fun k hk => by rw [hf2.1 187 (by decide)]; exact hv1 k hk)
        rw [gd_t (inb_nI (by omega) (by decide)), gd_t (inb_nI (by omega) (by decide)), gd_t (inb_nI (by omega) (by decide)), b3 148 (by decide) (by decide), h1]
        have hk3 := hwr.1
        have hrl : relS v r = cmpS r.2.1 y w := by unfold relS; rw [← hy, ← hw']
        rw [hrl] at fin ⊢
        have : r.2.1 = 0 ∨ r.2.1 = 1 ∨ r.2.1 = 2 ∨ r.2.1 = 3 := by omega
        rcases this with e | e | e | e <;> rw [e] at fin ⊢
        · rw [if_pos (show nI 0 = 0 from rfl)]
          by_cases h : y = w
          · rw [if_pos h]; simpa [tb, cmpS, h] using fin
          · rw [if_neg h]; simpa [tb, cmpS, h] using fin
        · rw [if_neg (show ¬ nI 1 = 0 by decide), if_pos (show nI 1 = 1 from rfl)]
          by_cases h : y = w
          · rw [if_pos h]; simpa [tb, cmpS, h] using fin
          · rw [if_neg h]; simpa [tb, cmpS, h] using fin
        · rw [if_neg (show ¬ nI 2 = 0 by decide), if_neg (show ¬ nI 2 = 1 by decide), if_pos (show nI 2 = 2 from rfl)]
          by_cases h : y < w
          · rw [if_neg (Int32.not_le.mpr h)]; simpa [tb, cmpS, h] using fin
          · rw [if_pos (Int32.not_lt.mp h)]; simpa [tb, cmpS, h] using fin
        · rw [if_neg (show ¬ nI 3 = 0 by decide), if_neg (show ¬ nI 3 = 1 by decide), if_neg (show ¬ nI 3 = 2 by decide)]
          by_cases h : y ≤ w
          · rw [if_neg (Int32.not_lt.mpr h)]; simpa [tb, cmpS, h] using fin
          · rw [if_pos (Int32.not_le.mp h)]; simpa [tb, cmpS, h] using fin
    have e64 : ∀ (z : Bool), fX9_holds_64 (fX9_holds_26 (m + l.length + 1)) (nI ri) (tb (z)) (nI f) (nI (200 * s + f)) σ = if r.1 = true then fX9_holds_76 (fX9_holds_26 (m + l.length + 1)) (nI ri) (tb (true)) (nI f) (nI (200 * s + f)) σ else fX9_holds_76 (fX9_holds_26 (m + l.length + 1)) (nI ri) (tb (z)) (nI f) (nI (200 * s + f)) σ := by
      intro z
      unfold fX9_holds_64
      rw [gd_t (inb_nI (by omega) (by decide)), nI_clamp (by omega), h2, ite_tb]
      rfl
    rw [ite_tb, ite_tb, e64]
    simp only [allS]
    by_cases o : r.1 = true
    · simp only [if_pos o]
      cases a with
      | true =>
        rw [if_pos rfl, if_pos rfl]
        exact ⟨_, rfl, rfl⟩
      | false =>
        rw [if_neg (by decide), if_neg (by decide)]
        have := body true
        rw [if_pos rfl] at this
        exact this
    · simp only [if_neg o]
      exact body a
theorem holds_ok (v : Nat → Int32) {s k : Nat} (hs : s ≤ 1) (hk : k < 20) {r : RU} {σ : PS} (hr : ruM σ s k r) (hw : wfU r) (hl : gi σ 132 18 = nI s) (hv : ∀ k, k < 8 → gi σ 187 k = v k) : hO (fX9_holds (nI (20 * s + k)) σ) (fun q => q.1 = tb (hdS v r.2.2.2) ∧ FRM SX9_holds σ q.2) := by
  refine hO.and ?_ (fun a e => frX9_holds _ _ _ e)
  obtain ⟨-, -, -, f, h7, h8, h9, h10⟩ := hr
  unfold fX9_holds
  rw [gd_t (inb_nI (by omega) (by decide)), gd_t (inb_nI (by omega) (by decide)), nI_clamp (by omega), h7, h8]
  unfold hdS
  match hh : r.2.2.2, h8, h9, h10, hw.2.2.1, hw.2.2.2 with
  | [], h8, h9, h10, _, _ =>
    rw [if_pos (show nI f = nI (f + ([] : List RE).length) from rfl)]
    exact ⟨_, rfl, rfl⟩
  | c :: l, h8, h9, h10, hq, ho =>
    simp only [List.length_cons] at h8 h9
    rw [if_neg (fun e => by have := nIeq_lit e (by omega) (by simp only [List.length_cons]; omega); simp only [List.length_cons] at this; omega), gd_t (inb_nI (by omega) (by decide))]
    obtain ⟨m, hm⟩ := FU_k (l.length + 1 + 1) (by omega)
    rw [hm]
    exact holds_loop v s (20 * s + k) hs (by omega) (c :: l) f m false σ hq h10 h8 h9 hl hv
/-- the reference's rules, on the side s -/
def BKM (σ : PS) (s : Nat) (l : List RU) : Prop := s ≤ 1 ∧ l.length ≤ 20 ∧ gi σ 132 18 = nI s ∧ gi σ 140 s = nI l.length ∧ bmR σ s 0 l ∧ ∀ r ∈ l, wfU r
theorem frh_sb {σ τ : PS} (h : FRM SX9_holds σ τ) : sameB σ τ := fun k h1 h2 j => h.1 k (by unfold SX9_holds inS; simp; omega) j
theorem says_loop (v : Nat → Int32) (s t : Nat) (x xm : Int32) (hs : s ≤ 1) (ht : t ≤ 1) : ∀ (l : List RU) (k m : Nat) (σ : PS), bmR σ s k l → (∀ r ∈ l, wfU r) → (∀ r ∈ l, r.1 = t → ((if r.1 = 0 then (-1 : Int32) else r.2.1) = xm ↔ r.2.1 = x)) → k + l.length ≤ 20 → gi σ 132 18 = nI s → gi σ 140 s = nI (k + l.length) → (∀ k, k < 8 → gi σ 187 k = v k) → hO (fX9_says_8 (m + l.length + 1) (nI t) xm (nI (20 * s + k)) σ) (fun q => q.1 = (match finS v t x k l with
    | none => 0
    | some q => valS v q.2.2.2.1)) := by
  intro l
  induction l with
  | nil =>
    intro k m σ hr hw hz hk hl hn hv
    simp only [List.length_nil, Nat.add_zero] at hn hk
    rw [fX9_says_8, hl, gd_t (inb_nI (by omega) (by decide)), nI_clamp (by omega), hn, nI20, if_pos (nI_le (Nat.le_refl _) (by omega))]
    exact ⟨_, rfl, rfl⟩
  | cons r l ih =>
    intro k m σ hr hw hz hk hl hn hv
    simp only [List.length_cons] at hk hn ⊢
    have hwr := hw r List.mem_cons_self
    have hzr := hz r List.mem_cons_self
    have ihn := fun (τ : PS) (a1 : sameB σ τ) (a3 : gi τ 132 18 = nI s) (a2 : ∀ k, k < 8 → gi τ 187 k = v k) => ih (k + 1) m τ (bmR_sb a1 hr.2) (fun r h => hw r (List.mem_cons_of_mem _ h)) (fun r h => hz r (List.mem_cons_of_mem _ h)) (by omega) a3 (by rw [a1 140 (by decide) (by decide), hn]; congr 1; omega) a2
    have hr1 := hr.1
    rw [show m + (l.length + 1) + 1 = (m + l.length + 1) + 1 by omega, fX9_says_8, hl, gd_t (inb_nI (by omega) (by decide)), nI_clamp (by omega), hn, nI20, if_neg (nI_ge (by omega) (by omega)), gd_t (inb_nI (by omega) (by omega)), nI_clamp (by omega), hr1.1, hr1.2.1]
    unfold fX9_says_74
    rw [nI_1, show 20 * s + k + 1 = 20 * s + (k + 1) by omega]
    simp only [finS]
    by_cases h1 : r.1 = t
    · rw [if_pos (show nI r.1 = nI t by rw [h1]), gd_t (inb_nI (by omega) (by omega))]
      by_cases h2 : r.2.1 = x
      · rw [if_pos ((hzr h1).mpr h2)]
        refine (holds_ok v hs (by omega) hr1 hwr hl hv).then ?_
        rintro ⟨y, τ⟩ ⟨hy, hf⟩
        have b1 := frh_sb hf
        simp only at hy ⊢
        rw [hy, ite_tb]
        by_cases h5 : hdS v r.2.2.2 = true
        · rw [if_pos h5, if_pos (show r.1 = _ ∧ r.2.1 = x ∧ hdS v r.2.2.2 = true from ⟨h1, h2, h5⟩)]
          obtain ⟨-, -, ⟨p, h6, h7, h8, h9⟩, -⟩ := ruM_sb b1 hr1
          rw [gd_t (inb_nI (by omega) (by omega)), gd_t (inb_nI (by omega) (by omega)), h6, h7]
          refine (value_all v (hwr.2.1 (by omega)) h9 h8 (fun k hk => by rw [hf.1 187 (by decide)]; exact hv k hk)).then ?_
          rintro ⟨z, υ⟩ ⟨hz, -⟩
          exact ⟨_, rfl, hz⟩
        · rw [if_neg h5, if_neg (show ¬ (r.1 = _ ∧ r.2.1 = x ∧ hdS v r.2.2.2 = true) from fun q => h5 q.2.2)]
          exact ihn τ b1 (by rw [hf.1 132 (by decide)]; exact hl) (fun k hk => by rw [hf.1 187 (by decide)]; exact hv k hk)
      · rw [if_neg (fun q => h2 ((hzr h1).mp q)), if_neg (show ¬ (r.1 = t ∧ r.2.1 = x ∧ hdS v r.2.2.2 = true) from fun q => h2 q.2.1)]
        exact ihn σ (fun _ _ _ _ => rfl) hl hv
    · rw [if_neg (show ¬ nI r.1 = nI t from fun q => h1 (by have := nIeq_lit q (by have := hwr.1; omega) (by omega); omega)), if_neg (show ¬ (r.1 = t ∧ r.2.1 = x ∧ hdS v r.2.2.2 = true) from fun q => h1 q.1)]
      exact ihn σ (fun _ _ _ _ => rfl) hl hv
theorem says_ok (v : Nat → Int32) {s t : Nat} {x : Int32} {l : List RU} {σ : PS} (h : BKM σ s l) (hz : ∀ r ∈ l, r.1 = 0 → r.2.1 = 0) (ht : t ≤ 1) (hx : t = 0 → x = 0) (hv : ∀ k, k < 8 → gi σ 187 k = v k) : hO (fX9_says (nI t) (if t = 0 then -1 else x) σ) (fun q => q.1 = sayS l t x v ∧ FRM SX9_says σ q.2) := by
  refine hO.and ?_ (fun a e => frX9_says _ _ _ _ e)
  obtain ⟨h1, h2, h3, h4, h5, h6⟩ := h
  unfold fX9_says
  obtain ⟨m, hm⟩ := FU_k (l.length + 1) (by omega)
  rw [hm, h3, show (20 : Int32) * nI s = nI (20 * s + 0) by rw [← nI20]; exact (Int32.add_zero _).symm]
  exact says_loop v s t x _ h1 ht l 0 m σ h5 h6 (fun r hr e => by
    by_cases ht0 : t = 0
    · rw [if_pos (e.trans ht0), if_pos ht0]
      exact ⟨fun _ => (hz r hr (e.trans ht0)).trans (hx ht0).symm, fun _ => rfl⟩
    · rw [if_neg (fun q => ht0 (e.symm.trans q)), if_neg ht0]) (by omega) h3 (by rw [h4, Nat.zero_add]) hv
theorem barOf_loop (v : Nat → Int32) (s : Nat) (x : Int32) (hs : s ≤ 1) : ∀ (l : List RU) (k m : Nat) (σ : PS), bmR σ s k l → (∀ r ∈ l, wfU r) → k + l.length ≤ 20 → gi σ 132 18 = nI s → gi σ 140 s = nI (k + l.length) → (∀ k, k < 8 → gi σ 187 k = v k) → hO (fX9_barOf_2 (m + l.length + 1) x (nI k) σ) (fun q => q.1 = (match finS v 2 x k l with
    | none => (-1 : Int32)
    | some q => nI q.1)) := by
  intro l
  induction l with
  | nil =>
    intro k m σ hr hw hk hl hn hv
    simp only [List.length_nil, Nat.add_zero] at hn hk
    rw [fX9_barOf_2, hl, gd_t (inb_nI (by omega) (by decide)), nI_clamp (by omega), hn, if_pos (nI_le (Nat.le_refl _) (by omega))]
    exact ⟨_, rfl, rfl⟩
  | cons r l ih =>
    intro k m σ hr hw hk hl hn hv
    simp only [List.length_cons] at hk hn ⊢
    have hwr := hw r List.mem_cons_self
    have ihn := fun (τ : PS) (a1 : sameB σ τ) (a3 : gi τ 132 18 = nI s) (a2 : ∀ k, k < 8 → gi τ 187 k = v k) => ih (k + 1) m τ (bmR_sb a1 hr.2) (fun r h => hw r (List.mem_cons_of_mem _ h)) (by omega) a3 (by rw [a1 140 (by decide) (by decide), hn]; congr 1; omega) a2
    have hr1 := hr.1
    rw [show m + (l.length + 1) + 1 = (m + l.length + 1) + 1 by omega, fX9_barOf_2, hl, gd_t (inb_nI (by omega) (by decide)), nI_clamp (by omega), hn, if_neg (nI_ge (by omega) (by omega)), nI20, gd_t (inb_nI (by omega) (by omega)), nI_clamp (by omega), hr1.1, hr1.2.1]
    unfold fX9_barOf_69
    rw [nI_1]
    simp only [finS]
    by_cases h1 : r.1 = 2
    · rw [if_pos (show nI r.1 = 2 by rw [h1]; rfl), gd_t (inb_nI (by omega) (by omega)), if_neg (show ¬ r.1 = 0 by omega)]
      by_cases h2 : r.2.1 = x
      · rw [if_pos h2]
        refine (holds_ok v hs (by omega) hr1 hwr hl hv).then ?_
        rintro ⟨y, τ⟩ ⟨hy, hf⟩
        have b1 := frh_sb hf
        simp only at hy ⊢
        rw [hy, ite_tb]
        by_cases h5 : hdS v r.2.2.2 = true
        · rw [if_pos h5, if_pos (show r.1 = _ ∧ r.2.1 = x ∧ hdS v r.2.2.2 = true from ⟨h1, h2, h5⟩)]
          exact ⟨_, rfl, rfl⟩
        · rw [if_neg h5, if_neg (show ¬ (r.1 = _ ∧ r.2.1 = x ∧ hdS v r.2.2.2 = true) from fun q => h5 q.2.2)]
          exact ihn τ b1 (by rw [hf.1 132 (by decide)]; exact hl) (fun k hk => by rw [hf.1 187 (by decide)]; exact hv k hk)
      · rw [if_neg h2, if_neg (show ¬ (r.1 = 2 ∧ r.2.1 = x ∧ hdS v r.2.2.2 = true) from fun q => h2 q.2.1)]
        exact ihn σ (fun _ _ _ _ => rfl) hl hv
    · rw [if_neg (show ¬ nI r.1 = 2 from fun q => h1 (nIeq_lit (b := 2) q (by have := hwr.1; omega) (by omega))), if_neg (show ¬ (r.1 = 2 ∧ r.2.1 = x ∧ hdS v r.2.2.2 = true) from fun q => h1 q.1)]
      exact ihn σ (fun _ _ _ _ => rfl) hl hv
theorem barOf_ok (v : Nat → Int32) {s : Nat} {x : Int32} {l : List RU} {σ : PS} (h : BKM σ s l) (hv : ∀ k, k < 8 → gi σ 187 k = v k) : hO (fX9_barOf x σ) (fun q => q.1 = barS l x v ∧ FRM SX9_barOf σ q.2) := by
  refine hO.and ?_ (fun a e => frX9_barOf _ _ _ e)
  obtain ⟨h1, h2, h3, h4, h5, h6⟩ := h
  unfold fX9_barOf
  obtain ⟨m, hm⟩ := FU_k (l.length + 1) (by omega)
  rw [hm]
  exact barOf_loop v s x h1 l 0 m σ h5 h6 (by omega) h3 (by rw [h4, Nat.zero_add]) hv
