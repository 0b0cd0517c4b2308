/-! the reference's ways -/
def kkS (e : TB) (r : Nat) : Int32 → List Nat → List Nat → Bool
  | f, c :: O, a :: A => if a = r then decide (e 17 c = (if f = -1 then e 17 c else f)) && kkS e r (if f = -1 then e 17 c else f) O A else kkS e r f O A
  | _, _, _ => true
def zmF (f : Nat → Nat) (p : Nat → Bool) : List Nat → List Nat → Nat
  | c :: O, a :: A => (if p a = true then f c else 0) + zmF f p O A
  | _, _ => 0
def mE (e : TB) (i R : Nat) (O A : List Nat) (σ : PS) : Prop := (∀ j, j < O.length → gi σ 189 j = nI (O.getD j 0) ∧ gi σ 190 j = nI (A.getD j 0)) ∧ gi σ 159 i = nI R ∧ gi σ 157 i = e 5 i ∧ (∀ r, r < 3 → gi σ 160 (3 * i + r) = e (9 + i) r) ∧ ∀ c, gi σ 161 c = e 17 c ∧ gi σ 162 c = e 18 c ∧ gi σ 163 c = e 19 c
theorem way25_ok {e : TB} {i R r : Nat} {O A : List Nat} {σ : PS} {r5 : Int32 → Int32 → Int32 → Int32 → PS → Option (Int32 × PS)} (hE : mE e i R O A σ) (hi : i < 8) (hr : r < R) (hR : R ≤ 3) (hO : O.length ≤ 6) (hA : A.length = O.length) (hc : ∀ c ∈ O, c < 6 ∧ isN (e 19 c) 1 9 ∧ isN (e 18 c) 1 30 ∧ isN (e 17 c) 0 3) (hAR : ∀ a ∈ A, a ≤ R) (hz : isN (e (9 + i) r) 1 20) : ∀ (Oq Aq Op Ap : List Nat) (m al su : Nat) (f : Int32), O = Op ++ Oq → A = Ap ++ Aq → Ap.length = Op.length → su ≤ 9 * Op.length → fX9_isWay_25 r5 (m + Oq.length + 1) (nI i) (nI O.length) (nI al) (nI r) (nI su) f (nI Op.length) σ = if kkS e r f Oq Aq = true then (if su + zmF (gN e) (fun a => a == r) Oq Aq ≤ zN e i r then r5 (nI i) (nI O.length) (nI (al + zmF (bN e) (fun a => a == r) Oq Aq)) (nI (r + 1)) σ else some (0, σ)) else some (0, σ) := by
  intro Oq
  have hzz := isN_cl hz (by decide)
  have z1 : e (9 + i) r = nI (zN e i r) := hzz.1
  have z2 : zN e i r ≤ 20 := hzz.2.2
  induction Oq with
  | nil =>
    intro Aq Op Ap m al su f hOe hAe hAl hsu
    rw [List.append_nil] at hOe
    subst hOe
    have : Aq = [] := by
      have h1 : A.length = Ap.length + Aq.length := by rw [hAe, List.length_append]
      exact List.length_eq_zero_iff.mp (by omega)
    subst this
    rw [fX9_isWay_25, if_pos (nI_le (Nat.le_refl _) (by omega)), nI3, gd_t (inb_nI (by omega) (by decide)), nI_clamp (by omega), hE.2.2.2.1 r (by omega), z1, nI_1]
    have k0 : kkS e r f [] [] = true := by simp [kkS]
    have y0 : zmF (gN e) (fun a => a == r) [] [] = 0 := by simp [zmF]
    have y1 : zmF (bN e) (fun a => a == r) [] [] = 0 := by simp [zmF]
    rw [if_pos k0, y0, y1, Nat.add_zero su, Nat.add_zero al]
    by_cases hq : su ≤ zN e i r
    · rw [if_pos (nI_le hq (by omega)), if_pos hq]
    · rw [if_neg (nI_ge (by omega) (by omega)), if_neg hq]
  | cons c Oq ih =>
    intro Aq Op Ap m al su f hOe hAe hAl hsu
    have hlen : O.length = Op.length + (Oq.length + 1) := by rw [hOe]; simp
    match Aq, hAe with
    | [], hAe =>
      have h1 : A.length = Ap.length + 0 := by rw [hAe, List.length_append]; rfl
      omega
    | a :: Aq, hAe =>
      have hk : Op.length < O.length := by omega
      have hgetO : O.getD Op.length 0 = c := by rw [hOe, gD_a2 (Nat.le_refl _)]; simp
      have hgetA : A.getD Op.length 0 = a := by rw [← hAl, hAe, gD_a2 (Nat.le_refl _)]; simp
      have hcO : c ∈ O := by rw [hOe]; simp
      have haA : a ∈ A := by rw [hAe]; simp
      obtain ⟨hc6, hcg, hcb, hck⟩ := hc c hcO
      have haR := hAR a haA
      have g6 : inb (nI c) 6 = true := inb_nI hc6 (by decide)
      have cc : (nI c).toNatClampNeg = c := nI_clamp (by omega)
      have hgg := isN_cl hcg (by decide)
      have hbb := isN_cl hcb (by decide)
      have g1 : e 19 c = nI (gN e c) := hgg.1
      have g2 : gN e c ≤ 9 := hgg.2.2
      have b1 : e 18 c = nI (bN e c) := hbb.1
      have hO2 : O = (Op ++ [c]) ++ Oq := by rw [hOe]; simp
      have hA2 : A = (Ap ++ [a]) ++ Aq := by rw [hAe]; simp
      have hl2 : (Ap ++ [a]).length = (Op ++ [c]).length := by simp [hAl]
      have hlc : (Op ++ [c]).length = Op.length + 1 := by simp
      rw [List.length_cons, show m + (Oq.length + 1) + 1 = (m + Oq.length + 1) + 1 by omega, fX9_isWay_25, if_neg (nI_ge hk (by omega)), gd_t (inb_nI (by omega) (by decide)), nI_clamp (show Op.length < 2 ^ 31 by omega), (hE.1 _ hk).1, (hE.1 _ hk).2, hgetO, hgetA]
      rw [kkS, zmF, zmF]
      by_cases har : a = r
      · rw [if_pos (show nI a = nI r by rw [har]), if_pos har, if_pos (show (a == r) = true by simpa using har), if_pos (show (a == r) = true by simpa using har), gd_t (inb_nI (by omega) (by decide)), gd_t g6, cc, (hE.2.2.2.2 c).1]
        -- the caravan's kind beside the first's
        have step : ∀ f' : Int32, fX9_isWay_70 r5 (fX9_isWay_25 r5 (m + Oq.length + 1)) (nI i) (nI O.length) (nI al) (nI r) (nI su) f' (nI Op.length) (nI c) σ = if (decide (e 17 c = f') && kkS e r f' Oq Aq) = true then (if su + (gN e c + zmF (gN e) (fun a => a == r) Oq Aq) ≤ zN e i r then r5 (nI i) (nI O.length) (nI (al + (bN e c + zmF (bN e) (fun a => a == r) Oq Aq))) (nI (r + 1)) σ else some (0, σ)) else some (0, σ) := by
          intro f'
          unfold fX9_isWay_70 fX9_isWay_106
          simp only [gd_t g6]
          rw [cc, (hE.2.2.2.2 c).1, (hE.2.2.2.2 c).2.1, (hE.2.2.2.2 c).2.2, b1, g1, nI_add, nI_add, nI_1, ← hlc]
          by_cases hq : e 17 c = f'
          · rw [if_pos hq, decide_eq_true hq, Bool.true_and, ih Aq (Op ++ [c]) (Ap ++ [a]) m (al + bN e c) (su + gN e c) f' hO2 hA2 hl2 (by rw [hlc]; omega), Nat.add_assoc, Nat.add_assoc]
          · rw [if_neg hq, decide_eq_false hq, Bool.false_and, if_neg (by decide)]
        rw [step, step]
        by_cases hf : f = -1
        · rw [if_pos hf, if_pos hf]
        · rw [if_neg hf, if_neg hf]
      · rw [if_neg (show ¬ nI a = nI r from fun q => har (nIeq_lit q (by omega) (by omega))), if_neg har, if_neg (show ¬ (a == r) = true by simpa using har), if_neg (show ¬ (a == r) = true by simpa using har)]
        unfold fX9_isWay_106
        rw [nI_1, ← hlc, ih Aq (Op ++ [c]) (Ap ++ [a]) m al su f hO2 hA2 hl2 (by rw [hlc]; omega), Nat.zero_add, Nat.zero_add]
def wyS (e : TB) (i : Nat) (O A : List Nat) : Nat → Nat → Nat → Bool
  | 0, _, al => decide (al ≤ (e 5 i).toNatClampNeg)
  | n + 1, r, al => kkS e r (-1) O A && (decide (zmF (gN e) (fun a => a == r) O A ≤ zN e i r) && wyS e i O A n (r + 1) (al + zmF (bN e) (fun a => a == r) O A))
theorem zmF_le {f : Nat → Nat} {p : Nat → Bool} {N : Nat} : ∀ {O A : List Nat}, (∀ c ∈ O, f c ≤ N) → zmF f p O A ≤ N * O.length := by
  intro O
  induction O with
  | nil => intro A _; simp [zmF]
  | cons c O ih =>
    intro A h
    match A with
    | [] => simp [zmF]
    | a :: A =>
      have h1 := h c List.mem_cons_self
      have h2 := ih (A := A) (fun c hc => h c (List.mem_cons_of_mem _ hc))
      simp only [zmF, List.length_cons, Nat.mul_succ]
      split <;> omega
theorem way5_ok {e : TB} {i R : Nat} {O A : List Nat} {σ : PS} (hE : mE e i R O A σ) (hi : i < 8) (hR : R ≤ 3) (hO : O.length ≤ 6) (hA : A.length = O.length) (hc : ∀ c ∈ O, c < 6 ∧ isN (e 19 c) 1 9 ∧ isN (e 18 c) 1 30 ∧ isN (e 17 c) 0 3) (hAR : ∀ a ∈ A, a ≤ R) (hz : ∀ r, r < R → isN (e (9 + i) r) 1 20) (h5 : isN (e 5 i) 0 60) : ∀ (n m r al : Nat), r + n = R → al ≤ 180 * r → fX9_isWay_5 (m + n + 1) (nI i) (nI O.length) (nI al) (nI r) σ = some (tb (wyS e i O A n r al), σ) := by
  intro n
  have h55 := isN_cl h5 (by decide)
  induction n with
  | zero =>
    intro m r al hr hal
    have : r = R := by omega
    subst this
    rw [fX9_isWay_5, gd_t (inb_nI hi (by decide)), gd_t (inb_nI hi (by decide)), nI_clamp (by omega), hE.2.1, if_pos (nI_le (Nat.le_refl _) (by omega)), hE.2.2.1]
    simp only [wyS]
    generalize (e 5 i).toNatClampNeg = s at h55 ⊢
    rw [h55.1]
    by_cases hq : al ≤ s
    · rw [if_neg (nI_nlt hq (by omega)), decide_eq_true hq]; rfl
    · rw [if_pos (nI_lt (by omega) (by omega)), decide_eq_false hq]; rfl
  | succ n ih =>
    intro m r al hr hal
    have hb : zmF (bN e) (fun a => a == r) O A ≤ 30 * O.length := zmF_le (fun c hcc => (isN_cl (hc c hcc).2.2.1 (by decide)).2.2)
    rw [show m + (n + 1) + 1 = (m + n + 1) + 1 by omega, fX9_isWay_5, gd_t (inb_nI hi (by decide)), nI_clamp (by omega), hE.2.1, if_neg (nI_ge (by omega) (by omega))]
    obtain ⟨m2, hm2⟩ := FU_k (O.length + 1) (by omega)
    rw [hm2]
    have := way25_ok (r5 := fX9_isWay_5 (m + n + 1)) hE hi (show r < R by omega) hR hO hA hc hAR (hz r (by omega)) O A [] [] m2 al 0 (-1) rfl rfl rfl (Nat.zero_le _)
    rw [show (0 : Int32) = nI 0 from rfl]
    refine this.trans ?_
    simp only [wyS]
    rw [Nat.zero_add, ih m (r + 1) _ (by omega) (by omega)]
    by_cases h1 : kkS e r (-1) O A = true
    · rw [if_pos h1, h1, Bool.true_and]
      by_cases h2 : zmF (gN e) (fun a => a == r) O A ≤ zN e i r
      · rw [if_pos h2, decide_eq_true h2, Bool.true_and]
      · rw [if_neg h2, decide_eq_false h2, Bool.false_and]; rfl
    · rw [if_neg h1, Bool.eq_false_iff.mpr h1, Bool.false_and]; rfl
theorem isWay_eq {e : TB} {i R : Nat} {O A : List Nat} {σ : PS} (hE : mE e i R O A σ) (hi : i < 8) (hR : R ≤ 3) (hO : O.length ≤ 6) (hA : A.length = O.length) (hc : ∀ c ∈ O, c < 6 ∧ isN (e 19 c) 1 9 ∧ isN (e 18 c) 1 30 ∧ isN (e 17 c) 0 3) (hAR : ∀ a ∈ A, a ≤ R) (hz : ∀ r, r < R → isN (e (9 + i) r) 1 20) (h5 : isN (e 5 i) 0 60) : fX9_isWay (nI i) (nI O.length) σ = some (tb (wyS e i O A R 0 0), σ) := by
  unfold fX9_isWay
  obtain ⟨m, hm⟩ := FU_k (R + 1) (by omega)
  rw [hm]
  exact way5_ok hE hi hR hO hA hc hAR hz h5 R m 0 0 (by omega) (Nat.zero_le _)
/-! a way of the reference is a way -/
theorem zmF_map {f : Nat → Nat} {p : Nat → Bool} {α : Nat → Nat} {O : List Nat} : zmF f p O (O.map α) = smF f (fun c => p (α c)) O := by
  induction O with
  | nil => rfl
  | cons c O ih => simp only [List.map_cons, zmF, smF]; rw [ih]
theorem kk_f {e : TB} {r : Nat} {α : Nat → Nat} : ∀ {O : List Nat} {f : Int32}, f ≠ -1 → (kkS e r f O (O.map α) = true ↔ ∀ c ∈ O, α c = r → e 17 c = f) := by
  intro O
  induction O with
  | nil => intro f hf; simp [kkS]
  | cons c O ih =>
    intro f hf
    simp only [List.map_cons, kkS]
    rw [if_neg hf]
    by_cases hr : α c = r
    · rw [if_pos hr, Bool.and_eq_true, decide_eq_true_eq, ih hf]
      constructor
      · rintro ⟨h1, h2⟩ x hx hxr
        rw [List.mem_cons] at hx
        rcases hx with q | q
        · rw [q]; exact h1
        · exact h2 x q hxr
      · intro h
        exact ⟨h c List.mem_cons_self hr, fun x hx => h x (List.mem_cons_of_mem _ hx)⟩
    · rw [if_neg hr, ih hf]
      constructor
      · intro h2 x hx hxr
        rw [List.mem_cons] at hx
        rcases hx with q | q
        · rw [q] at hxr; exact absurd hxr hr
        · exact h2 x q hxr
      · intro h x hx
        exact h x (List.mem_cons_of_mem _ hx)
theorem kk_iff {e : TB} {r : Nat} {α : Nat → Nat} : ∀ {O : List Nat}, (∀ c ∈ O, isN (e 17 c) 0 3) → (kkS e r (-1) O (O.map α) = true ↔ ∀ c ∈ O, ∀ c' ∈ O, α c = r → α c' = r → e 17 c = e 17 c') := by
  intro O
  induction O with
  | nil => intro _; simp [kkS]
  | cons c O ih =>
    intro hk
    have ih := ih (fun x hx => hk x (List.mem_cons_of_mem _ hx))
    simp only [List.map_cons, kkS]
    rw [if_pos trivial]
    have hne : e 17 c ≠ -1 := by
      obtain ⟨k, hk', -, hk3⟩ := hk c List.mem_cons_self
      rw [hk']
      exact nI_m1 (by omega)
    by_cases hr : α c = r
    · rw [if_pos hr, decide_eq_true rfl, Bool.true_and, kk_f hne]
      constructor
      · intro h x hx y hy hxr hyr
        have g : ∀ z ∈ c :: O, α z = r → e 17 z = e 17 c := by
          intro z hz hzr
          rw [List.mem_cons] at hz
          rcases hz with q | q
          · rw [q]
          · exact h z q hzr
        rw [g x hx hxr, g y hy hyr]
      · intro h x hx hxr
        exact h x (List.mem_cons_of_mem _ hx) c List.mem_cons_self hxr hr
    · rw [if_neg hr, ih]
      constructor
      · intro h x hx y hy hxr hyr
        rw [List.mem_cons] at hx hy
        rcases hx with q | q
        · rw [q] at hxr; exact absurd hxr hr
        · rcases hy with p | p
          · rw [p] at hyr; exact absurd hyr hr
          · exact h x q y p hxr hyr
      · intro h x hx y hy
        exact h x (List.mem_cons_of_mem _ hx) y (List.mem_cons_of_mem _ hy)
theorem wy_iff {e : TB} {i R : Nat} {α : Nat → Nat} {O : List Nat} (hk : ∀ c ∈ O, isN (e 17 c) 0 3) : ∀ (n r al : Nat), r + n = R → (wyS e i O (O.map α) n r al = true ↔ (∀ q, r ≤ q → q < R → (∀ c ∈ O, ∀ c' ∈ O, α c = q → α c' = q → e 17 c = e 17 c') ∧ smF (gN e) (fun c => α c == q) O ≤ zN e i q) ∧ al + smF (bN e) (fun c => decide (r ≤ α c ∧ α c < R)) O ≤ (e 5 i).toNatClampNeg) := by
  intro n
  induction n with
  | zero =>
    intro r al hr
    have : r = R := by omega
    subst this
    simp only [wyS, decide_eq_true_eq]
    have e0 : smF (bN e) (fun c => decide (r ≤ α c ∧ α c < r)) O = 0 := by
      have : smF (bN e) (fun c => decide (r ≤ α c ∧ α c < r)) O = smF (bN e) (fun _ => false) O := smF_congr (fun c _ => by
        rw [decide_eq_false_iff_not]; omega)
      rw [this]
      clear this hk
      induction O with
      | nil => rfl
      | cons a l ih => simp only [smF]; rw [if_neg (by decide), ih]
    rw [e0, Nat.add_zero]
    exact ⟨fun h => ⟨fun q a b => by omega, h⟩, fun h => h.2⟩
  | succ n ih =>
    intro r al hr
    simp only [wyS]
    rw [Bool.and_eq_true, Bool.and_eq_true, decide_eq_true_eq, kk_iff hk, zmF_map, zmF_map, ih (r + 1) _ (by omega)]
    have e1 : smF (bN e) (fun c => decide (r ≤ α c ∧ α c < R)) O = smF (bN e) (fun c => α c == r) O + smF (bN e) (fun c => decide (r + 1 ≤ α c ∧ α c < R)) O := by
      clear ih hk
      induction O with
      | nil => rfl
      | cons c O ih =>
        simp only [smF]
        rw [ih]
        by_cases h1 : α c = r
        · rw [if_pos (by rw [decide_eq_true_eq]; omega), if_pos (by simpa using h1), if_neg (by rw [decide_eq_true_eq]; omega)]; omega
        · by_cases h2 : r + 1 ≤ α c ∧ α c < R
          · rw [if_pos (by rw [decide_eq_true_eq]; omega), if_neg (by simpa using h1), if_pos (by rw [decide_eq_true_eq]; exact h2)]; omega
          · rw [if_neg (by rw [decide_eq_true_eq]; omega), if_neg (by simpa using h1), if_neg (by rw [decide_eq_true_eq]; exact h2)]; omega
    rw [e1]
    constructor
    · rintro ⟨h1, h2, h3, h4⟩
      refine ⟨fun q a b => ?_, by omega⟩
      by_cases hq : q = r
      · rw [hq]; exact ⟨h1, h2⟩
      · exact h3 q (by omega) b
    · rintro ⟨h1, h2⟩
      exact ⟨(h1 r (by omega) (by omega)).1, (h1 r (by omega) (by omega)).2, fun q a b => h1 q (by omega) b, by omega⟩
theorem way_iff {e : TB} {i R : Nat} {α : Nat → Nat} {O : List Nat} (hk : ∀ c ∈ O, isN (e 17 c) 0 3) (hR : ∀ c ∈ O, α c ≤ R) : wyS e i O (O.map α) R 0 0 = true ↔ WayF e i R O α := by
  rw [wy_iff hk R 0 0 (Nat.zero_add R), Nat.zero_add]
  have e1 : smF (bN e) (fun c => decide (0 ≤ α c ∧ α c < R)) O = smF (bN e) (fun c => decide (α c < R)) O := smF_congr (fun c _ => by simp)
  rw [e1]
  constructor
  · rintro ⟨h1, h2⟩
    exact ⟨hR, fun c hc c' hc' hlt heq => (h1 (α c) (Nat.zero_le _) hlt).1 c hc c' hc' rfl heq.symm, fun r hr => (h1 r (Nat.zero_le _) hr).2, h2⟩
  · rintro ⟨-, h1, h2, h3⟩
    exact ⟨fun q _ hq => ⟨fun c hc c' hc' hcq hcq' => h1 c hc c' hc' (by omega) (by omega), h2 q hq⟩, h3⟩
