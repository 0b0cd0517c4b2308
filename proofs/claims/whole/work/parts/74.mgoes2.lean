/-! the reference's days, and what it knows of shut roads -/
theorem mo1S_15 {e : TB} {l : List RU} {sh : Nat → Nat → Bool} {d c : Nat} {D : TB} : mo1S e l sh d D c 1 c = -1 ∧ mo1S e l sh d D c 5 c = 0 := by
  have h1 : ∀ h, slS D c h 1 c = -1 := fun h => by unfold slS; rw [u2_ne (by omega), u2_ne (by omega), u2_eq]
  have h5 : ∀ h, slS D c h 5 c = 0 := fun h => by unfold slS; rw [u2_ne (by omega), u2_eq]
  unfold mo1S
  split
  · exact ⟨h1 _, h5 _⟩
  · rw [brS_ne (by decide) (by omega), brS_ne (by decide) (by omega)]
    exact ⟨h1 _, h5 _⟩
theorem morS_15 {e : TB} {l : List RU} {sh : Nat → Nat → Bool} {d : Nat} {D : TB} : ∀ {n c : Nat}, c < n → morS e l sh d D n 1 c = -1 ∧ morS e l sh d D n 5 c = 0 := by
  intro n
  induction n with
  | zero => intro c h; omega
  | succ n ih =>
    intro c h
    show mo1S e l sh d (morS e l sh d D n) n 1 c = -1 ∧ mo1S e l sh d (morS e l sh d D n) n 5 c = 0
    by_cases hc : c = n
    · subst hc; exact mo1S_15
    · rw [mo1S_ne (by decide) (by omega), mo1S_ne (by decide) (by omega)]
      exact ih (by omega)
theorem evS_first {e : TB} {l : List RU} {d : Nat} {D : TB} : ∀ {n c : Nat}, c < n → (evS e l d D n 0 c = -1 → evS e l d D n 5 c = D 5 c) ∧ (evS e l d D n 0 c ≠ -1 → evS e l d D n 5 c = sayS l 0 0 (vrS e c (D 2 c) (D 3 c) d (evS e l d D n 0 c))) := by
  intro n
  induction n with
  | zero => intro c h; omega
  | succ n ih =>
    intro c h
    show (fiS e l d (beS e d (evS e l d D n) n) n 0 c = -1 → fiS e l d (beS e d (evS e l d D n) n) n 5 c = D 5 c) ∧ (fiS e l d (beS e d (evS e l d D n) n) n 0 c ≠ -1 → fiS e l d (beS e d (evS e l d D n) n) n 5 c = sayS l 0 0 (vrS e c (D 2 c) (D 3 c) d (fiS e l d (beS e d (evS e l d D n) n) n 0 c)))
    by_cases hc : c = n
    · subst hc
      rw [fiS_ne (show (0 : Nat) ≠ 5 ∨ c ≠ c by omega)]
      have e2 : beS e d (evS e l d D c) c 2 c = D 2 c := by rw [beS_ne (by omega), evS_ne (by omega)]
      have e3 : beS e d (evS e l d D c) c 3 c = D 3 c := by rw [beS_ne (by omega), evS_ne (by omega)]
      have e5 : beS e d (evS e l d D c) c 5 c = D 5 c := by rw [beS_ne (by omega), evS_ne (by omega)]
      unfold fiS
      refine ⟨fun h0 => ?_, fun h0 => ?_⟩
      · rw [if_pos h0, e5]
      · rw [if_neg h0, u2_eq, e2, e3]
    · rw [fiS_ne (by omega), fiS_ne (by omega), beS_ne (by omega), beS_ne (by omega)]
      exact ih (by omega)
theorem dayS_gone {e : TB} {l : List RU} {sh : Nat → Nat → Bool} {na nc d : Nat} {P : TB} (hL : LE e na nc) {c : Nat} (hc : c < nc) (h0 : dayS e l sh na nc d P 0 c = -1) : dayS e l sh na nc d P 1 c = -1 ∧ dayS e l sh na nc d P 5 c = 0 := by
  unfold dayS at h0 ⊢
  rw [hosS_ne (by omega)] at h0
  have hn : ∀ i, i < na → evS e l d (morS e l sh d P nc) nc 0 c ≠ nI i := fun i hi q => by
    rw [h0] at q
    exact nI_m1 (by have := hL.1; omega) q.symm
  rw [hosS_at (by decide) (by have := hL.1; omega) hn, hosS_at (by decide) (by have := hL.1; omega) hn, evS_ne (by omega), (evS_first hc).1 h0]
  exact morS_15 hc
/-- what the reference carries from day to day -/
def cyM (e : TB) (nc : Nat) (σ : PS) (P : TB) : Prop := (∀ c, c < nc → gi σ 182 c = wkS e P c ∧ gi σ 183 c = P 2 c ∧ gi σ 184 c = P 3 c ∧ gi σ 185 c = P 4 c) ∧ ∀ x, x < 5 → gi σ 186 x = P 8 x
theorem mday_ok {e : TB} {l : List RU} {s : Nat} {sh : Nat → Nat → Bool} {d na nc : Nat} {P : TB} {r144 : Int32 → PS → Option PS} {Q : PS → Prop} {σ : PS} (hz : ∀ r ∈ l, r.1 = 0 → r.2.1 = 0) (hL : LE e na nc) (hd : d < 60) (hP : DI P na nc) (hE : ME e l s sh σ) (hC : cyM e nc σ P) (hV : ∀ i, i < na → pvM σ d i = P 7 i) (hk : ∀ τ : PS, rF d σ τ → RT τ na nc d (dayS e l sh na nc d P) → cyM e nc τ (dayS e l sh na nc d P) → hO (r144 (nI (d + 1)) τ) Q) : hO (fX9_goes_152 r144 FU (nI d) 0 σ) Q := by
  have L1 := hL.1
  have L2 := hL.2.1
  obtain ⟨m, hm⟩ := FU_k (nc + 1) (by omega)
  rw [hm]
  refine m152_ok hz hL hd hP nc m 0 σ (by omega) hE (fun c hc => ?_) hC.2 (fun _ h => by omega) ?_
  · rw [if_neg (by omega)]
    exact hC.1 c hc
  intro τ t1 t0 t2 t3 t4
  have hEt := ME_rF hE t1
  obtain ⟨m2, hm2⟩ := FU_k (nc + 1) (by omega)
  rw [hm2]
  refine m174_ok (M := morS e l sh d P nc) hL hd nc m2 0 τ (by omega) hEt (fun c hc => (t2 c hc).1) ?_
  intro υ u1 u2
  have hEu := ME_fr hEt (fun k hk j => u1 k j (by omega))
  have fu : rF d σ υ := t1.tr (fun k j a b => u1 k j (by omega))
  obtain ⟨m3, hm3⟩ := FU_k (na + 1) (by omega)
  rw [hm3]
  have hpv : ∀ i, i < na → pvM υ d i = P 7 i := fun i hi => by
    rw [pvM_fr (σ := σ) hd (fun _ => by rw [u1 _ _ (by decide), t0 _ (by decide) (by decide)])]
    exact hV i hi
  refine m212_ok (E := evS e l d (morS e l sh d P nc) nc) hz hL hd (fun c hc h0 => ?_) na m3 0 υ (by omega) hEu (fun c hc => ⟨u2 c hc, ?_, ?_⟩) (fun c hc h => by obtain ⟨i', h', _⟩ := h; omega) (fun i' h => by omega) (fun i' _ h => ?_) ?_
  · rw [(evS_first hc).2 h0]
    rw [show evS e l d (morS e l sh d P nc) nc 2 c = morS e l sh d P nc 2 c from evS_ne (by omega), show evS e l d (morS e l sh d P nc) nc 3 c = morS e l sh d P nc 3 c from evS_ne (by omega)]
  · rw [u1 _ _ (by decide)]
    show _ = evS e l d (morS e l sh d P nc) nc 2 c
    rw [evS_ne (by omega), morS_ne (by decide) (by omega)]
    exact (t2 c hc).2.1
  · rw [u1 _ _ (by decide)]
    show _ = evS e l d (morS e l sh d P nc) nc 3 c
    rw [evS_ne (by omega), morS_ne (by decide) (by omega)]
    exact (t2 c hc).2.2.1
  · rw [evS_ne (by omega), morS_ne (by decide) (by omega)]
    exact hpv i' h
  intro ω w1 w2 w3 w4
  have fw : rF d σ ω := fu.tr (fun k j a b => w1 k j (by omega) (by omega) (by omega) (fun h => b (by omega) (by omega)))
  have hEw := ME_rF hE fw
  obtain ⟨m4, hm4⟩ := FU_k (nc + 1) (by omega)
  rw [hm4]
  have D0 : ∀ c, dayS e l sh na nc d P 0 c = evS e l d (morS e l sh d P nc) nc 0 c := fun c => hosS_ne (by omega)
  have D4 : ∀ c, dayS e l sh na nc d P 4 c = morS e l sh d P nc 4 c := fun c => by unfold dayS; rw [hosS_ne (by omega), evS_ne (by omega)]
  have D5 : ∀ c, dayS e l sh na nc d P 5 c = evS e l d (morS e l sh d P nc) nc 5 c := fun c => hosS_ne (by omega)
  have D6 : ∀ c, dayS e l sh na nc d P 6 c = morS e l sh d P nc 6 c := fun c => by unfold dayS; rw [hosS_ne (by omega), evS_ne (by omega)]
  have D8 : ∀ c, dayS e l sh na nc d P 8 c = morS e l sh d P nc 8 c := fun c => by unfold dayS; rw [hosS_ne (by omega), evS_ne (by omega)]
  have hDI : DI (evS e l d (morS e l sh d P nc) nc) na nc := evS_DI hL (morS_DI hL hP nc (Nat.le_refl _)) nc (Nat.le_refl _)
  refine m234_ok (D := dayS e l sh na nc d P) hL hd (fun c hc h0 => dayS_gone hL hc h0) nc m4 0 ω (by omega) hEw (fun c hc => ?_) (fun c hc _ h0 => ?_) (fun _ h => by omega) ?_
  · rw [if_neg (by omega), D0, D4]
    refine ⟨(w2 c hc).1, (w2 c hc).2.1, (w2 c hc).2.2, ?_⟩
    rw [w1 185 c (by decide) (by decide) (by decide) (by omega), u1 _ _ (by decide)]
    exact (t2 c hc).2.2.2
  · rw [D5]
    rw [D0] at h0
    refine w3 c hc ?_
    rcases hDI c hc with q | ⟨i, hi, q⟩
    · exact absurd q h0
    · exact ⟨i, hi, q⟩
  intro α a1 a2 a3
  have fa : rF d σ α := fw.tr (fun k j a b => a1 k j (by omega) (fun h1 h2 => b (by omega) (by omega)))
  obtain ⟨m5, hm5⟩ := FU_k 6 (by decide)
  rw [hm5]
  refine m361_ok (D := dayS e l sh na nc d P) hd 5 m5 0 α (by omega) (fun x hx => ?_) (fun _ h => by omega) ?_
  · rw [a1 186 x (by decide) (fun _ _ => by omega), w1 186 x (by decide) (by decide) (by decide) (by omega), u1 _ _ (by decide), D8]
    exact t3 x hx
  intro β b1 b2
  have fb : rF d σ β := fa.tr (fun k j a b => b1 k j (fun h => b (by omega) (by omega)))
  have bk : ∀ k j, k ≠ 180 → gi β k j = gi α k j := fun k j h => b1 k j (fun q => absurd q h)
  refine hk β fb ⟨fun c hc => ?_, fun i hi => ?_, b2⟩ ⟨fun c hc => ?_, fun x hx => ?_⟩
  · rw [bk _ _ (by decide), bk _ _ (by decide), bk _ _ (by decide), bk _ _ (by decide), bk _ _ (by decide), bk _ _ (by decide), bk _ _ (by decide)]
    obtain ⟨c0, c1, c2, c3, c4, c5⟩ := a3 c hc
    refine ⟨c0, c1, c2, c3, c4, c5, ?_⟩
    rw [a1 178 _ (by decide) (fun _ _ => by omega), w1 178 _ (by decide) (by decide) (by decide) (by omega), u1 _ _ (by decide), D6]
    exact t4 c hc
  · rw [bk _ _ (by decide), a1 179 _ (by decide) (fun _ _ => by omega)]
    exact w4 i hi
  · rw [bk _ _ (by decide), bk _ _ (by decide), bk _ _ (by decide), bk _ _ (by decide), a1 183 _ (by decide) (fun _ _ => by omega), a1 184 _ (by decide) (fun _ _ => by omega), a1 185 _ (by decide) (fun _ _ => by omega)]
    refine ⟨a2 c hc, (w2 c hc).2.1, (w2 c hc).2.2, ?_⟩
    rw [w1 185 c (by decide) (by decide) (by decide) (by omega), u1 _ _ (by decide), D4]
    exact (t2 c hc).2.2.2
  · rw [bk _ _ (by decide), a1 186 x (by decide) (fun _ _ => by omega), w1 186 x (by decide) (by decide) (by decide) (by omega), u1 _ _ (by decide), D8]
    exact t3 x hx
/-- what goes leaves as it was -/
def gG (σ τ : PS) : Prop := ∀ k j, ¬ (172 ≤ k ∧ k ≤ 192) → gi τ k j = gi σ k j
theorem m144_ok {e : TB} {l : List RU} {s : Nat} {sh : Nat → Nat → Bool} {na nc : Nat} (hz : ∀ r ∈ l, r.1 = 0 → r.2.1 = 0) (hL : LE e na nc) : ∀ (q m d : Nat) (σ : PS), d + q = 60 → ME e l s sh σ → cyM e nc σ (rodS e l sh na nc d) → (∀ d', d' < d → RT σ na nc d' (rodS e l sh na nc (d' + 1))) → hO (fX9_goes_144 (m + q + 1) (nI d) σ) (fun τ => (∀ d', d' < 60 → RT τ na nc d' (rodS e l sh na nc (d' + 1))) ∧ gG σ τ) := by
  intro q
  induction q with
  | zero =>
    intro m d σ hq hE hC hT
    have : d = 60 := by omega
    subst this
    rw [fX9_goes_144, if_pos (show (60 : Int32) ≤ nI 60 by decide)]
    exact ⟨_, rfl, hT, fun _ _ _ => rfl⟩
  | succ q ih =>
    intro m d σ hq hE hC hT
    have hd : d < 60 := by omega
    rw [show m + (q + 1) + 1 = (m + q + 1) + 1 by omega, fX9_goes_144, if_neg (l_nle (k := 60) (by rfl) hd (by decide))]
    refine mday_ok hz hL hd (rodS_DI hL d) hE hC (fun i hi => ?_) ?_
    · unfold pvM
      cases d with
      | zero => rw [if_pos rfl]; rfl
      | succ d =>
        rw [if_neg (by omega), show 60 * i + (d + 1) - 1 = 60 * i + d by omega]
        exact (hT d (by omega)).2.1 i hi
    · intro τ t1 t2 t3
      refine (ih m (d + 1) τ (by omega) (ME_rF hE t1) t3 (fun d' hd' => ?_)).mono (fun α ha => ⟨ha.1, fun k j a => by rw [ha.2 k j a, t1 k j (by omega) (fun h1 h2 => by omega)]⟩)
      by_cases hdd : d' = d
      · subst hdd; exact t2
      · obtain ⟨r1, r2, r3⟩ := hT d' (by omega)
        have f : ∀ k x, 172 ≤ k → k ≤ 180 → gi τ k (60 * x + d') = gi σ k (60 * x + d') := fun k x a b => t1 k _ (by omega) (fun _ _ => by omega)
        refine ⟨fun c hc => ?_, fun i hi => by rw [f _ _ (by decide) (by decide)]; exact r2 i hi, fun x hx => by rw [f _ _ (by decide) (by decide)]; exact r3 x hx⟩
        rw [f _ _ (by decide) (by decide), f _ _ (by decide) (by decide), f _ _ (by decide) (by decide), f _ _ (by decide) (by decide), f _ _ (by decide) (by decide), f _ _ (by decide) (by decide), f _ _ (by decide) (by decide)]
        exact r1 c hc
/-- is a road known to be shut on a day, by the first n facts -/
def shS (a b c : Nat → Int32) (n i d : Nat) : Bool := (List.range n).any (fun j => decide (a j = 0) && (decide (b j = nI i) && decide (c j = nI d)))
theorem shS_iff {a b c : Nat → Int32} {n i d : Nat} : shS a b c n i d = true ↔ ∃ j, j < n ∧ a j = 0 ∧ b j = nI i ∧ c j = nI d := by
  unfold shS
  rw [List.any_eq_true]
  constructor
  · rintro ⟨j, h1, h2⟩
    simp only [Bool.and_eq_true, decide_eq_true_eq] at h2
    exact ⟨j, List.mem_range.mp h1, h2⟩
  · rintro ⟨j, h1, h2⟩
    refine ⟨j, List.mem_range.mpr h1, ?_⟩
    simp only [Bool.and_eq_true, decide_eq_true_eq]
    exact h2
theorem shS_succ {a b c : Nat → Int32} {n i d : Nat} : shS a b c (n + 1) i d = (shS a b c n i d || (decide (a n = 0) && (decide (b n = nI i) && decide (c n = nI d)))) := by
  unfold shS
  rw [List.range_succ, List.any_append]
  simp
theorem shS_congr {a b c a' b' c' : Nat → Int32} {n i d : Nat} (h : ∀ j, j < n → a' j = a j ∧ b' j = b j ∧ c' j = c j) : shS a' b' c' n i d = shS a b c n i d := by
  apply Bool.eq_iff_iff.mpr
  rw [shS_iff, shS_iff]
  constructor
  · rintro ⟨j, h1, h2⟩
    have := h j h1
    rw [this.1, this.2.1, this.2.2] at h2
    exact ⟨j, h1, h2⟩
  · rintro ⟨j, h1, h2⟩
    have := h j h1
    exact ⟨j, h1, by rw [this.1, this.2.1, this.2.2]; exact h2⟩
/-- a fact of the reference -/
def fcM (σ : PS) (n : Nat) : Prop := ∀ j, j < n → gi σ 169 j = 0 → ∃ i d, i < 8 ∧ d < 60 ∧ gi σ 170 j = nI i ∧ gi σ 171 j = nI d
theorem nar0 : vp_nar .boolean 0 = 0 := by decide
theorem nar1 : vp_nar .boolean 1 = 1 := by decide
theorem m16_ok {n : Nat} {Q : PS → Prop} : ∀ (q m k : Nat) (σ : PS), k + q = 480 → (∀ j, j < k → gi σ 181 j = 0) → (∀ τ : PS, (∀ k j, k ≠ 181 → gi τ k j = gi σ k j) → (∀ j, j < 480 → gi τ 181 j = 0) → hO (fX9_goes_38 FU (nI n) 0 τ) Q) → hO (fX9_goes_16 (m + q + 1) (nI n) (nI k) σ) Q := by
  intro q
  induction q with
  | zero =>
    intro m k σ hq h1 hk
    have : k = 480 := by omega
    subst this
    rw [fX9_goes_16, if_pos (show (480 : Int32) ≤ nI 480 by decide)]
    exact hk σ (fun _ _ _ => rfl) h1
  | succ q ih =>
    intro m k σ hq h1 hk
    rw [show m + (q + 1) + 1 = (m + q + 1) + 1 by omega, fX9_goes_16, if_neg (l_nle (k := 480) (by rfl) (by omega) (by decide)), gd_t (inb_nI (by omega) (by decide)), nI_clamp (by omega), nI_1, nar0]
    refine ih m (k + 1) _ (by omega) (fun j hj => ?_) (fun τ t1 t2 => hk τ (fun k' j h => by rw [t1 k' j h, gi_ne h]) t2)
    by_cases hjk : j = k
    · subst hjk; rw [gi_eq]
    · rw [gi_nj hjk]; exact h1 j (by omega)
theorem m38_ok {n : Nat} {Q : PS → Prop} (hn : n ≤ 300) : ∀ (q m k : Nat) (σ : PS), k + q = n → fcM σ n → (∀ i, i < 8 → ∀ d, d < 60 → gi σ 181 (60 * i + d) = tb (shS (gi σ 169) (gi σ 170) (gi σ 171) k i d)) → (∀ τ : PS, (∀ k j, k ≠ 181 → gi τ k j = gi σ k j) → (∀ i, i < 8 → ∀ d, d < 60 → gi τ 181 (60 * i + d) = tb (shS (gi τ 169) (gi τ 170) (gi τ 171) n i d)) → hO (fX9_goes_82 FU 0 τ) Q) → hO (fX9_goes_38 (m + q + 1) (nI n) (nI k) σ) Q := by
  intro q
  induction q with
  | zero =>
    intro m k σ hq hf h1 hk
    have : k = n := by omega
    subst this
    rw [fX9_goes_38, if_pos (nI_le (Nat.le_refl _) (by omega))]
    exact hk σ (fun _ _ _ => rfl) h1
  | succ q ih =>
    intro m k σ hq hf h1 hk
    rw [show m + (q + 1) + 1 = (m + q + 1) + 1 by omega, fX9_goes_38, if_neg (nI_ge (by omega) (by omega))]
    unfold fX9_goes_74
    simp only [gd_t (inb_nI (show k < 300 by omega) (show 300 < 2 ^ 31 by decide))]
    rw [nI_clamp (show k < 2 ^ 31 by omega), nI_1, nar1]
    by_cases h0 : gi σ 169 k = 0
    · obtain ⟨i0, d0, hi0, hd0, e1, e2⟩ := hf k (by omega) h0
      rw [if_pos h0, e1, e2, nI60, gd_t (inb_nI (by omega) (by decide)), nI_clamp (by omega)]
      have s1 : ∀ k' j, k' ≠ 181 → gi (sI σ 181 (60 * i0 + d0) 1) k' j = gi σ k' j := fun k' j h => gi_ne h
      refine ih m (k + 1) _ (by omega) (fun j hj hz => ?_) (fun i hi d hd => ?_) (fun τ t1 t2 => hk τ (fun k' j h => by rw [t1 k' j h, s1 k' j h]) t2)
      · rw [s1 _ _ (by decide)] at hz
        rw [s1 _ _ (by decide), s1 _ _ (by decide)]
        exact hf j hj hz
      · rw [show gi (sI σ 181 (60 * i0 + d0) 1) 169 = gi σ 169 from rfl, show gi (sI σ 181 (60 * i0 + d0) 1) 170 = gi σ 170 from rfl, show gi (sI σ 181 (60 * i0 + d0) 1) 171 = gi σ 171 from rfl, shS_succ, h0, e1, e2]
        by_cases hid : i = i0 ∧ d = d0
        · rw [hid.1, hid.2, gi_eq]
          simp
          rfl
        · rw [gi_nj (by omega), h1 i hi d hd]
          have : (decide ((0 : Int32) = 0) && (decide (nI i0 = nI i) && decide (nI d0 = nI d))) = false := by
            by_cases hq : i = i0
            · have hq2 : ¬ d = d0 := fun h => hid ⟨hq, h⟩
              rw [decide_eq_false (show ¬ nI d0 = nI d from fun h => hq2 (nIeq_lit h (by omega) (by omega)).symm), Bool.and_false, Bool.and_false]
            · rw [decide_eq_false (show ¬ nI i0 = nI i from fun h => hq (nIeq_lit h (by omega) (by omega)).symm), Bool.false_and, Bool.and_false]
          rw [this, Bool.or_false]
    · rw [if_neg h0]
      refine ih m (k + 1) σ (by omega) hf (fun i hi d hd => ?_) hk
      rw [shS_succ, decide_eq_false h0, Bool.false_and, Bool.or_false]
      exact h1 i hi d hd
theorem m82_ok {Q : PS → Prop} : ∀ (q m k : Nat) (σ : PS), k + q = 6 → (∀ j, j < k → gi σ 182 j = -1 ∧ gi σ 183 j = 0 ∧ gi σ 184 j = 0 ∧ gi σ 185 j = 0) → (∀ τ : PS, (∀ k j, ¬ (182 ≤ k ∧ k ≤ 185) → gi τ k j = gi σ k j) → (∀ j, j < 6 → gi τ 182 j = -1 ∧ gi τ 183 j = 0 ∧ gi τ 184 j = 0 ∧ gi τ 185 j = 0) → hO (fX9_goes_124 FU 0 τ) Q) → hO (fX9_goes_82 (m + q + 1) (nI k) σ) Q := by
  intro q
  induction q with
  | zero =>
    intro m k σ hq h1 hk
    have : k = 6 := by omega
    subst this
    rw [fX9_goes_82, if_pos (show (6 : Int32) ≤ nI 6 by decide)]
    exact hk σ (fun _ _ _ => rfl) h1
  | succ q ih =>
    intro m k σ hq h1 hk
    rw [show m + (q + 1) + 1 = (m + q + 1) + 1 by omega, fX9_goes_82, if_neg (l_nle (k := 6) (by rfl) (by omega) (by decide))]
    simp only [gd_t (inb_nI (show k < 6 by omega) (show 6 < 2 ^ 31 by decide))]
    rw [nI_clamp (by omega), nI_1]
    refine ih m (k + 1) _ (by omega) (fun j hj => ?_) (fun τ t1 t2 => hk τ (fun k' j h => by rw [t1 k' j h, gi_ne (by omega), gi_ne (by omega), gi_ne (by omega), gi_ne (by omega)]) t2)
    by_cases hjk : j = k
    · subst hjk
      refine ⟨?_, ?_, ?_, gi_eq⟩
      · rw [gi_ne (by decide), gi_ne (by decide), gi_ne (by decide), gi_eq]
      · rw [gi_ne (by decide), gi_ne (by decide), gi_eq]
      · rw [gi_ne (by decide), gi_eq]
    · simp only [gi_sI, if_neg hjk, ite_self]
      exact h1 j (by omega)
theorem m124_ok {Q : PS → Prop} : ∀ (q m k : Nat) (σ : PS), k + q = 5 → (∀ j, j < k → gi σ 186 j = 0) → (∀ τ : PS, (∀ k j, k ≠ 186 → gi τ k j = gi σ k j) → (∀ j, j < 5 → gi τ 186 j = 0) → hO (fX9_goes_144 FU 0 τ) Q) → hO (fX9_goes_124 (m + q + 1) (nI k) σ) Q := by
  intro q
  induction q with
  | zero =>
    intro m k σ hq h1 hk
    have : k = 5 := by omega
    subst this
    rw [fX9_goes_124, if_pos (show (5 : Int32) ≤ nI 5 by decide)]
    exact hk σ (fun _ _ _ => rfl) h1
  | succ q ih =>
    intro m k σ hq h1 hk
    rw [show m + (q + 1) + 1 = (m + q + 1) + 1 by omega, fX9_goes_124, if_neg (l_nle (k := 5) (by rfl) (by omega) (by decide)), gd_t (inb_nI (by omega) (by decide)), nI_clamp (by omega), nI_1]
    refine ih m (k + 1) _ (by omega) (fun j hj => ?_) (fun τ t1 t2 => hk τ (fun k' j h => by rw [t1 k' j h, gi_ne h]) t2)
    by_cases hjk : j = k
    · subst hjk; rw [gi_eq]
    · rw [gi_nj hjk]; exact h1 j (by omega)
/-- the land and the rules, without the shut roads -/
def ML (e : TB) (l : List RU) (s : Nat) (σ : PS) : Prop := (gi σ 132 38 = e 3 0 ∧ gi σ 132 44 = e 3 6) ∧ (∀ j, gi σ 156 j = e 4 j ∧ gi σ 157 j = e 5 j ∧ gi σ 158 j = e 6 j ∧ gi σ 159 j = e 7 j ∧ gi σ 161 j = e 17 j ∧ gi σ 162 j = e 18 j ∧ gi σ 163 j = e 19 j ∧ gi σ 164 j = e 20 j ∧ gi σ 165 j = e 21 j ∧ gi σ 166 j = e 22 j ∧ gi σ 167 j = e 23 j) ∧ (∀ i, i < 8 → ∀ r, r < 3 → gi σ 160 (3 * i + r) = e (9 + i) r) ∧ BKM σ s l
theorem ML_fr {e : TB} {l : List RU} {s : Nat} {σ τ : PS} (h : ML e l s σ) (f : ∀ k j, 132 ≤ k → k ≤ 168 → (k = 132 → j ≠ 58) → gi τ k j = gi σ k j) : ML e l s τ := by
  obtain ⟨⟨a1, a2⟩, a3, a4, a5⟩ := h
  refine ⟨⟨by rw [f 132 38 (by omega) (by omega) (by omega)]; exact a1, by rw [f 132 44 (by omega) (by omega) (by omega)]; exact a2⟩, fun j => ?_, fun i hi r hr => by rw [f 160 _ (by omega) (by omega) (by omega)]; exact a4 i hi r hr, BKM_fr a5 (f 132 18 (by omega) (by omega) (by omega)) (fun k h1 h2 j => f k j (by omega) (by omega) (by omega))⟩
  rw [f 156 _ (by omega) (by omega) (by omega), f 157 _ (by omega) (by omega) (by omega), f 158 _ (by omega) (by omega) (by omega), f 159 _ (by omega) (by omega) (by omega), f 161 _ (by omega) (by omega) (by omega), f 162 _ (by omega) (by omega) (by omega), f 163 _ (by omega) (by omega) (by omega), f 164 _ (by omega) (by omega) (by omega), f 165 _ (by omega) (by omega) (by omega), f 166 _ (by omega) (by omega) (by omega), f 167 _ (by omega) (by omega) (by omega)]
  exact a3 j
/-- the reference goes through all days -/
theorem goes16_ok {e : TB} {l : List RU} {s na nc n : Nat} {σ : PS} (hz : ∀ r ∈ l, r.1 = 0 → r.2.1 = 0) (hL : LE e na nc) (hn : n ≤ 300) (hf : fcM σ n) (hE : ML e l s σ) : hO (fX9_goes_16 FU (nI n) 0 σ) (fun τ => (∀ d, d < 60 → RT τ na nc d (rodS e l (shS (gi σ 169) (gi σ 170) (gi σ 171) n) na nc (d + 1))) ∧ gG σ τ) := by
  have L2 := hL.2.1
  obtain ⟨m, hm⟩ := FU_k 481 (by decide)
  rw [hm]
  refine m16_ok 480 m 0 σ (by omega) (fun _ h => by omega) ?_
  intro τ t1 t2
  obtain ⟨m2, hm2⟩ := FU_k (n + 1) (by omega)
  rw [hm2]
  refine m38_ok hn n m2 0 τ (by omega) (fun j hj h0 => ?_) (fun i hi d hd => ?_) ?_
  · rw [t1 _ _ (by decide)] at h0
    rw [t1 _ _ (by decide), t1 _ _ (by decide)]
    exact hf j hj h0
  · rw [t2 _ (by omega)]; rfl
  intro υ u1 u2
  have us : shS (gi υ 169) (gi υ 170) (gi υ 171) n = shS (gi σ 169) (gi σ 170) (gi σ 171) n := by
    funext i d
    exact shS_congr (fun j _ => ⟨by rw [u1 _ _ (by decide), t1 _ _ (by decide)], by rw [u1 _ _ (by decide), t1 _ _ (by decide)], by rw [u1 _ _ (by decide), t1 _ _ (by decide)]⟩)
  rw [us] at u2
  obtain ⟨m3, hm3⟩ := FU_k 7 (by decide)
  rw [hm3]
  refine m82_ok 6 m3 0 υ (by omega) (fun _ h => by omega) ?_
  intro ω w1 w2
  obtain ⟨m4, hm4⟩ := FU_k 6 (by decide)
  rw [hm4]
  refine m124_ok 5 m4 0 ω (by omega) (fun _ h => by omega) ?_
  intro α a1 a2
  have fa : ∀ k j, k ≠ 181 → ¬ (182 ≤ k ∧ k ≤ 186) → gi α k j = gi σ k j := fun k j h1 h2 => by rw [a1 k j (by omega), w1 k j (by omega), u1 k j h1, t1 k j h1]
  have hMLa : ML e l s α := ML_fr hE (fun k j h1 h2 _ => fa k j (by omega) (by omega))
  have hMEa : ME e l s (shS (gi σ 169) (gi σ 170) (gi σ 171) n) α := ⟨hMLa.1, hMLa.2.1, hMLa.2.2.1, hMLa.2.2.2, fun i hi d hd => by rw [a1 181 _ (by decide), w1 181 _ (by omega)]; exact u2 i hi d hd⟩
  obtain ⟨m5, hm5⟩ := FU_k 61 (by decide)
  rw [hm5]
  refine (m144_ok hz hL 60 m5 0 α (by omega) hMEa ⟨fun c hc => ?_, a2⟩ (fun _ h => by omega)).mono (fun β hb => ⟨hb.1, fun k j h1 => by rw [hb.2 k j h1, fa k j (by omega) (by omega)]⟩)
  have := w2 c (by omega)
  rw [a1 _ _ (by decide), a1 _ _ (by decide), a1 _ _ (by decide), a1 _ _ (by decide)]
  refine ⟨?_, this.2.1, this.2.2.1, this.2.2.2⟩
  rw [this.1]
  unfold wkS
  show (-1 : Int32) = if (-1 : Int32) = e 21 c then -1 else -1
  rw [ite_self]
