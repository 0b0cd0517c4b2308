/-! the reference's rule, from its beginning -/
theorem RC.cur {K P : Nat → Nat} {V : Nat → Int32} {s t c g k : Nat} {rs : List RU} {wr : Int32} {σ : PS} (h : RC K P V s t c g rs wr σ) (h1 : 141 ≤ k) (h2 : k ≤ 146) (x : Int32) : RC K P V s t c g rs wr (sI σ k (20 * s + rs.length) x) := by
  obtain ⟨⟨a1, a2⟩, ⟨i1, i2, i3, i4, i5⟩, a3, ⟨a4, a5⟩, a6⟩ := id h
  have gn : ∀ a j, a ≠ k → gi (sI σ k (20 * s + rs.length) x) a j = gi σ a j := fun a j z => gi_ne z
  refine h.go (Nat.le_refl _) a1 a2 (Nat.le_refl _) a4 ?_ ?_ ?_ ?_ (gn _ _ (by omega)) (gn _ _ (by omega)) (gn _ _ (by omega)) (gn _ _ (by omega)) (gn _ _ (by omega)) ⟨fun a i b1 b2 b3 => ?_, fun a i b1 b2 b3 => gn _ _ (by omega), fun j _ _ => ⟨gn _ _ (by omega), gn _ _ (by omega)⟩⟩ (fun a j b1 b2 => gn _ _ (by omega))
  · rw [gn _ _ (by omega)]; exact i1
  · rw [gn _ _ (by omega)]; exact i2
  · rw [gn _ _ (by omega)]; exact i3
  · rw [gn _ _ (by omega)]; exact i5
  · by_cases z : a = k
    · subst z; exact gi_nj (by omega)
    · exact gn _ _ z
theorem FL_fr {F : FQ} {σ τ : PS} (h : FL F σ) (f : ∀ j, gi τ 132 j = gi σ 132 j) : FL F τ := by
  obtain ⟨h1, h2, h3, t, h4, h5⟩ := h
  exact ⟨h1, by rw [f]; exact h2, by rw [f]; exact h3, t, h4, by rw [f]; exact h5⟩
theorem CRn_cur {s n g k : Nat} {σ : PS} {x : Int32} (h : CRn s n g σ) (h1 : 141 ≤ k) (h2 : k ≤ 146) : CRn s n g (sI σ k (20 * s + n) x) := by
  refine CRn_fr h (gi_ne (by omega)) (gi_ne (by omega)) (fun a i b1 b2 b3 => ?_) (fun a i b1 b2 b3 => gi_ne (by omega))
  by_cases z : a = k
  · subst z; exact gi_nj (by omega)
  · exact gi_ne z
theorem CRn_2 {s n g j : Nat} {σ : PS} {x : Int32} (h : CRn s n g σ) : CRn s n g (sI σ 132 j x) := CRn_fr h (gi_ne (by decide)) (gi_ne (by decide)) (fun a i b1 b2 b3 => gi_ne (by omega)) (fun a i b1 b2 b3 => gi_ne (by omega))
def TX (s n g : Nat) (F : FQ) (σ0 τ : PS) : Prop := frR (okc s) σ0 τ ∧ FL F τ ∧ CRn s n g τ
theorem TX.tp {K P : Nat → Nat} {V : Nat → Int32} {s n g t0 : Nat} {F : FQ} {σ0 τ : PS} (h : TX s n g F σ0 τ) : TP K P V s t0 F σ0 τ := ⟨h.1, Or.inr ⟨h.2.1, n, g, h.2.2⟩⟩
theorem t262_no {F : FQ} {x2 s0 : Int32} {σ : PS} (h : FL F σ) : fX9_tellRule_262 x2 s0 σ = some σ := by
  unfold fX9_tellRule_262 fX9_tellRule_273
  obtain ⟨m, hm⟩ := FU_k 1 (by decide)
  rw [hm, t276_no h]
  by_cases z : s0 = 0
  · rw [if_pos z]
  · rw [if_neg z, must_no h.2.1 h.1.1 h.1.2]
    simp only [Option.bind_some]
    rw [t276_no h]
theorem e213 {s x : Nat} {σ : PS} (hs : s ≤ 1) (hx : x < 40) (h19 : gi σ 132 19 = nI s) : fX9_tellRule_213 (nI x) σ = if gi σ 141 x = 2 then fX9_tellRule_257 (nI x) (sI (sI σ 144 x (gi σ 132 33)) 145 x (gi σ 147 s)) else (fX9_is 21 (sI (sI σ 144 x (gi σ 132 33)) 145 x (gi σ 147 s))).bind (fun qy48 => (fun (y48 : Int32) (σ49 : PS) => (if y48 = 0 then fX9_tellRule_262 (nI x) 0 σ49 else fX9_tellRule_257 (nI x) σ49)) qy48.1 qy48.2) := by
  unfold fX9_tellRule_213
  simp (disch := decide) only [gi_ne]
  rw [h19, nI_clamp (by omega), nI_clamp (by omega), gd_t (inb_nI hx (by decide)), gd_t (inb_nI (by omega) (by decide)), gd_t (inb_nI hx (by decide)), gd_t (inb_nI hx (by decide))]
theorem t213_no {s n g : Nat} {F : FQ} {σ0 σ : PS} (hs : s ≤ 1) (hn : n < 20) (h19 : gi σ 132 19 = nI s) (h : TX s n g F σ0 σ) : hO (fX9_tellRule_213 (nI (20 * s + n)) σ) (TX s n g F σ0) := by
  obtain ⟨h1, h2, h3⟩ := h
  rw [e213 hs (by omega) h19]
  generalize hτ : sI (sI σ 144 (20 * s + n) (gi σ 132 33)) 145 (20 * s + n) (gi σ 147 s) = τ
  have f : FL F τ := FL_fr h2 (fun j => by rw [← hτ, gi_ne (by decide), gi_ne (by decide)])
  have hh : TX s n g F σ0 τ := by
    refine ⟨?_, f, ?_⟩
    · rw [← hτ]; exact (h1.i (okc_1 (by decide) (by decide) hn)).i (okc_1 (by decide) (by decide) hn)
    · rw [← hτ]; exact CRn_cur (CRn_cur h3 (by decide) (by decide)) (by decide) (by decide)
  unfold fX9_tellRule_257
  by_cases z : gi σ 141 (20 * s + n) = 2
  · rw [if_pos z, t262_no f]; exact ⟨τ, rfl, hh⟩
  · rw [if_neg z, is_no f.2.1 f.1.1 f.1.2]
    simp only [Option.bind_some]
    rw [if_pos trivial, t262_no f]
    exact ⟨τ, rfl, hh⟩
theorem t189_no {s n g : Nat} {F : FQ} {σ0 σ : PS} (hs : s ≤ 1) (hn : n < 20) (h19 : gi σ 132 19 = nI s) (h : TX s n g F σ0 σ) : hO (fX9_tellRule_189 (nI (20 * s + n)) σ) (TX s n g F σ0) := by
  obtain ⟨h1, h2, h3⟩ := h
  unfold fX9_tellRule_189
  rw [gd_t (inb_nI (by omega) (by decide)), gd_t (inb_nI (by omega) (by decide)), nI_clamp (by omega)]
  generalize hτ : sI σ 143 (20 * s + n) (gi σ 132 33) = τ
  have f : FL F τ := FL_fr h2 (fun j => by rw [← hτ, gi_ne (by decide)])
  have h19' : gi τ 132 19 = nI s := by rw [← hτ, gi_ne (by decide)]; exact h19
  have hh : TX s n g F σ0 τ := by
    refine ⟨?_, f, ?_⟩
    · rw [← hτ]; exact h1.i (okc_1 (by decide) (by decide) hn)
    · rw [← hτ]; exact CRn_cur h3 (by decide) (by decide)
  by_cases z : 2 ≤ gi τ 141 (20 * s + n)
  · rw [if_pos z]; exact t213_no hs hn h19' hh
  · rw [if_neg z, exp_no f.2.1 f.1.1 f.1.2]
    simp only [Option.bind_some]
    refine t213_no hs hn (by rw [gi_nj (by decide)]; exact h19') ⟨hh.1.i (okc_2 (by decide)), ?_, CRn_2 hh.2.2⟩
    obtain ⟨y1, y2, y3, t, y4, y5⟩ := f
    exact ⟨y1, by rw [gi_nj (by decide)]; exact y2, by rw [gi_nj (by decide)]; exact y3, t, y4, by rw [gi_nj (by decide)]; exact y5⟩
/-- a condition follows -/
theorem t262_1 {K P : Nat → Nat} {V : Nat → Int32} {s t t0 c g so p : Nat} {rs : List RU} {wr lo : Int32} {va : List IT} {F : FQ} {σ0 σ : PS} (hs : s ≤ 1) (hK : ∀ i, K i ≤ 26) (hV : ∀ i, K i = 2 → isN (V i) 0 9999) (hr : rs.length < 20) (h : RC K P V s t c g rs wr σ) (cu : CU s rs.length so lo va p c g σ) (fr : frR (okc s) σ0 σ) (ht0 : t0 ≤ t) (h6 : K t = 6 → (t < 400 → finR K P V (t + 1) (mkQ 3 (1, (rs, wr), (so, lo, va), ([], true, 0, [])) [] []) = F ∧ wfQ (mkQ 3 (1, (rs, wr), (so, lo, va), ([], true, 0, [])) [] [])) ∧ (t = 400 → F = (2, P t, [], -1))) (hn : K t ≠ 6 → F = (1, P t, [], -1)) : hO (fX9_tellRule_262 (nI (20 * s + rs.length)) 1 σ) (TP K P V s t0 F σ0) := by
  have ht := h.1.1
  unfold fX9_tellRule_262 fX9_tellRule_273
  rw [if_neg (by decide)]
  by_cases k6 : K t = 6
  · obtain ⟨h7, h8⟩ := h6 k6
    rw [h.must_y hK (k := 6) (by rfl) (by decide) k6]
    by_cases t4 : t = 400
    · obtain ⟨n1, n2⟩ := h.nextE t4 F (h8 t4)
      rw [n1]
      simp only [Option.bind_some]
      obtain ⟨m, hm⟩ := FU_k 1 (by decide)
      rw [hm, t276_no n2.1]
      exact ⟨_, rfl, (fr.i (okc_2 (by decide))).i (okc_2 (by decide)), Or.inr ⟨n2.1, _, _, n2.2⟩⟩
    · obtain ⟨f1, f2⟩ := h7 (by omega)
      rw [next_go (by omega) h.2.1.1]
      simp only [Option.bind_some]
      obtain ⟨m, hm⟩ := FU_k (401 + 1) (by decide)
      rw [hm, ← Nat.add_assoc]
      exact t276 hs hK hV hr 401 m (t + 1) c g [] true _ (by omega) (h.next (by omega) (show K t ≠ 0 by omega)) (CU_fr cu (fun a a1 a2 => gi_ne (by omega)) (fun j _ _ => ⟨gi_ne (by decide), gi_ne (by decide)⟩) (Nat.le_refl _)) (fun i r hi => by simp at hi) rfl (fr.i (okc_2 (by decide))) (by omega) f2 f1
  · rw [h.must_n hK (k := 6) (by rfl) (by decide) (by decide) k6]
    obtain ⟨n1, n2⟩ := h.fail (f := 1) (by decide) (by decide) F (hn k6)
    rw [show fX9_fail 1 σ = fX9_fail (nI 1) σ from rfl, n1]
    simp only [Option.bind_some]
    obtain ⟨m, hm⟩ := FU_k 1 (by decide)
    rw [hm, t276_no n2.1]
    exact ⟨_, rfl, (fr.i (okc_2 (by decide))).i (okc_2 (by decide)), Or.inr ⟨n2.1, _, _, n2.2⟩⟩
theorem tak4i (rs : List RU) (wr : Int32) (so : Nat) (lo : Int32) (va : List IT) (re : List RE) (cn : Bool) (op : Nat) (le it : List IT) (wt : List Nat) (p : Nat) (v : Int32) : takS (mkQ 4 (0, (rs, wr), (so, lo, va), (re, cn, op, le)) it wt) 6 v p = mkQ 3 (1, (rs, wr), (so, lo, it ++ rlE 1 wt), ([], true, 0, [])) [] [] := rfl
theorem tak4z (rs : List RU) (wr : Int32) (so : Nat) (lo : Int32) (va : List IT) (re : List RE) (cn : Bool) (op : Nat) (le it : List IT) (wt : List Nat) (p : Nat) (v : Int32) : takS (mkQ 4 (0, (rs, wr), (so, lo, va), (re, cn, op, le)) it wt) 17 v p = Z0 (rs ++ [(so, lo, it ++ rlE 1 wt, [])]) wr := rfl
theorem so_ne {so : Nat} (h : so < 2) : ¬ nI so = 2 := e_ne (k := 2) (by rfl) (by omega) (by omega) (by decide)
/-- behind a value -/
theorem t213v {K P : Nat → Nat} {V : Nat → Int32} {s t t0 c g so p : Nat} {rs : List RU} {wr lo : Int32} {va : List IT} {re : List RE} {cn : Bool} {op : Nat} {le it : List IT} {wt : List Nat} {F : FQ} {σ0 σ : PS} (hs : s ≤ 1) (hK : ∀ i, K i ≤ 26) (hV : ∀ i, K i = 2 → isN (V i) 0 9999) (hr : rs.length < 20) (hso : so < 2) (h : RC K P V s t c g rs wr σ) (c1 : gi σ 141 (20 * s + rs.length) = nI so) (c2 : gi σ 142 (20 * s + rs.length) = (if so = 0 then -1 else lo)) (c3 : gi σ 143 (20 * s + rs.length) = nI p) (c5 : 500 * s ≤ p) (c6 : p + (it ++ rlE 1 wt).length = 500 * s + c) (c7 : sgM (gi σ 153) (gi σ 154) p (it ++ rlE 1 wt)) (fr : frR (okc s) σ0 σ) (ht0 : t0 ≤ t) (q3 : wfQ (mkQ 4 (0, (rs, wr), (so, lo, va), (re, cn, op, le)) it wt)) (q4 : opnW wt = 0) (q5 : ¬ (18 ≤ K t ∧ K t ≤ 20)) (q6 : finR K P V t (mkQ 4 (0, (rs, wr), (so, lo, va), (re, cn, op, le)) it wt) = F) : hO (fX9_tellRule_213 (nI (20 * s + rs.length)) σ) (TP K P V s t0 F σ0) := by
  obtain ⟨⟨a1, a2⟩, ⟨i1, i2, i3, i4, i5⟩, a3, ⟨a4, a5⟩, ⟨a6, a7, a8⟩, a9⟩ := id h
  rw [e213 hs (by omega) i4, c1, if_neg (so_ne hso), i5, a8]
  have hR := (h.cur (k := 144) (by decide) (by decide) (nI (500 * s + c))).cur (k := 145) (by decide) (by decide) (nI g)
  have hc : CU s rs.length so lo (it ++ rlE 1 wt) p c g (sI (sI σ 144 (20 * s + rs.length) (nI (500 * s + c))) 145 (20 * s + rs.length) (nI g)) := by
    refine ⟨?_, ?_, ?_, ?_, c5, by omega, sgM_congr (fun j _ _ => ⟨?_, ?_⟩) c7, gi_eq⟩
    · rw [gi_ne (by decide), gi_ne (by decide)]; exact c1
    · rw [gi_ne (by decide), gi_ne (by decide)]; exact c2
    · rw [gi_ne (by decide), gi_ne (by decide)]; exact c3
    · rw [gi_ne (by decide), gi_eq, c6]
    · rw [gi_ne (by decide), gi_ne (by decide)]
    · rw [gi_ne (by decide), gi_ne (by decide)]
  have fr' : frR (okc s) σ0 (sI (sI σ 144 (20 * s + rs.length) (nI (500 * s + c))) 145 (20 * s + rs.length) (nI g)) := (fr.i (okc_1 (by decide) (by decide) hr)).i (okc_1 (by decide) (by decide) hr)
  generalize sI (sI σ 144 (20 * s + rs.length) (nI (500 * s + c))) 145 (20 * s + rs.length) (nI g) = τ at hR hc fr'
  have hk := hK t
  rw [is_eq (j := 6) (by rfl) (by decide) (by decide) hk hR.2.1.2.2.1 a1 hR.2.1.1 hR.tok.1]
  simp only [Option.bind_some]
  rw [ite_tb]
  have hm : mayS (mkQ 4 (0, (rs, wr), (so, lo, va), (re, cn, op, le)) it wt) (K t) = decide (K t = 6 ∨ K t = 17) := by
    rw [may4, if_neg q5, if_pos q4, if_neg (show ¬ (0 : Nat) = 1 by decide), if_neg (show ¬ (0 : Nat) = 2 by decide)]
  have hto : K t ≠ 25 → ¬ tooS (mkQ 4 (0, (rs, wr), (so, lo, va), (re, cn, op, le)) it wt) (K t) = true := by
    intro z
    rw [too4]
    exact fun y => z (of_decide_eq_true y).1
  have nt : K t = 6 ∨ K t = 17 → (t < 400 → finR K P V (t + 1) (takS (mkQ 4 (0, (rs, wr), (so, lo, va), (re, cn, op, le)) it wt) (K t) (V t) (P t)) = F ∧ wfQ (takS (mkQ 4 (0, (rs, wr), (so, lo, va), (re, cn, op, le)) it wt) (K t) (V t) (P t))) ∧ (t = 400 → F = (2, P t, [], -1)) := by
    intro z
    have hm' := hm.trans (decide_eq_true z)
    refine ⟨fun t4 => ⟨?_, wfQ_take q3 hm' (by omega) (hto (by omega)) (hV t)⟩, fun t4 => ?_⟩
    · rw [← fin_go t4 hm' (by omega) (hto (by omega))]; exact q6
    · rw [← q6]; exact fin_too a1 hm' (by omega) (Or.inl t4)
  by_cases k6 : K t = 6
  · rw [if_pos (decide_eq_true k6)]
    unfold fX9_tellRule_257
    refine t262_1 hs hK hV hr hR hc fr' ht0 (fun _ => ?_) (fun z => absurd k6 z)
    have := nt (Or.inl k6)
    rw [k6, tak4i] at this
    exact this
  · rw [if_neg (fun z => k6 (of_decide_eq_true z))]
    unfold fX9_tellRule_262 fX9_tellRule_273
    obtain ⟨m, hmm⟩ := FU_k 1 (by decide)
    rw [if_pos rfl, hmm, fX9_tellRule_276, if_pos rfl]
    refine t332 (re := []) hs hK hR hr hc (fun i r hi => by simp at hi) rfl fr' ht0 (fun k17 => ?_) (fun k17 => ?_)
    · have := nt (Or.inr k17)
      rw [k17, tak4z] at this
      exact this
    · rw [← q6]
      refine fin_no a1 ?_
      rw [hm]
      exact fun z => by have := of_decide_eq_true z; omega
def Z2 (rs : List RU) (wr lo : Int32) : QS := ((2, 0), (rs, wr), (2, lo, []), ([], true, 0, []), [], [])
theorem t213b {K P : Nat → Nat} {V : Nat → Int32} {s t t0 c g : Nat} {rs : List RU} {wr lo : Int32} {F : FQ} {σ0 σ : PS} (hs : s ≤ 1) (hK : ∀ i, K i ≤ 26) (hV : ∀ i, K i = 2 → isN (V i) 0 9999) (hr : rs.length < 20) (h : RC K P V s t c g rs wr σ) (c1 : gi σ 141 (20 * s + rs.length) = nI 2) (c2 : gi σ 142 (20 * s + rs.length) = lo) (c3 : gi σ 143 (20 * s + rs.length) = nI (500 * s + c)) (fr : frR (okc s) σ0 σ) (ht0 : t0 ≤ t) (q3 : wfQ (Z2 rs wr lo)) (q6 : finR K P V t (Z2 rs wr lo) = F) : hO (fX9_tellRule_213 (nI (20 * s + rs.length)) σ) (TP K P V s t0 F σ0) := by
  obtain ⟨⟨a1, a2⟩, ⟨i1, i2, i3, i4, i5⟩, a3, ⟨a4, a5⟩, ⟨a6, a7, a8⟩, a9⟩ := id h
  rw [e213 hs (by omega) i4, c1, if_pos (by rfl), i5, a8]
  have hR := (h.cur (k := 144) (by decide) (by decide) (nI (500 * s + c))).cur (k := 145) (by decide) (by decide) (nI g)
  have hc : CU s rs.length 2 lo [] (500 * s + c) c g (sI (sI σ 144 (20 * s + rs.length) (nI (500 * s + c))) 145 (20 * s + rs.length) (nI g)) := by
    refine ⟨?_, ?_, ?_, ?_, by omega, Nat.le_refl _, trivial, gi_eq⟩
    · rw [gi_ne (by decide), gi_ne (by decide)]; exact c1
    · rw [gi_ne (by decide), gi_ne (by decide)]; exact c2
    · rw [gi_ne (by decide), gi_ne (by decide)]; exact c3
    · rw [gi_ne (by decide), gi_eq]; rfl
  have fr' : frR (okc s) σ0 (sI (sI σ 144 (20 * s + rs.length) (nI (500 * s + c))) 145 (20 * s + rs.length) (nI g)) := (fr.i (okc_1 (by decide) (by decide) hr)).i (okc_1 (by decide) (by decide) hr)
  unfold fX9_tellRule_257
  have hm : mayS (Z2 rs wr lo) (K t) = decide (K t = 6) := rfl
  have hto : K t = 6 → ¬ tooS (Z2 rs wr lo) (K t) = true := by
    intro z y
    have := of_decide_eq_true (p := K t = 25 ∧ 6 ≤ opnW []) y
    omega
  refine t262_1 hs hK hV hr hR hc fr' ht0 (fun k6 => ⟨fun t4 => ?_, fun t4 => ?_⟩) (fun k6 => ?_)
  · have hm' := hm.trans (decide_eq_true k6)
    have e : takS (Z2 rs wr lo) (K t) (V t) (P t) = mkQ 3 (1, (rs, wr), (2, lo, []), ([], true, 0, [])) [] [] := rfl
    have f1 := fin_go (P := P) (V := V) t4 hm' (by omega) (hto k6)
    have f2 := wfQ_take (p := P t) q3 hm' (by omega) (hto k6) (hV t)
    rw [e] at f1 f2
    exact ⟨by rw [← f1]; exact q6, f2⟩
  · rw [← q6]; exact fin_too a1 (hm.trans (decide_eq_true k6)) (by omega) (Or.inl t4)
  · rw [← q6]
    refine fin_no a1 ?_
    rw [hm]
    exact fun z => k6 (of_decide_eq_true z)
