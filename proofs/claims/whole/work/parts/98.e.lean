/-! the reader's step -/
theorem take_ok {b t : Nat} {A : QS} {σ : PS} {k p : Nat} {v : Int32} (hb : b = 116 ∨ b = 124) (ht : t < 400) (h : CQ b t A σ) (hw : wfQ A) (hm : mayS A k = true) (h0 : k ≠ 0) (hto : ¬ tooS A k = true) (hk : k ≤ 26) (t3 : gi σ 40 3 = nI k) (t2 : gi σ 40 2 = nI p) (t4 : k = 2 → gi σ 40 4 = v) : hO (fX4_take b σ) (fun τ => CQ b (t + 1) (takS A k v p) τ ∧ frS b σ τ) := by
  obtain ⟨⟨aw, pt⟩, ⟨rs, wr⟩, ⟨so, lo, va⟩, ⟨re, cn, op, le⟩, it, wt⟩ := A
  obtain ⟨⟨r1, r0, r2, r3⟩, a1, a2, a3, a4, a5, a6, a7, a8, a9, b1, b2, b3, b4, b5, b6, b7, b8, b9⟩ := hw
  obtain ⟨c, h⟩ := h
  simp only [clW, curC] at h
  simp only [mayS] at hm
  simp only [tooS] at hto
  unfold takS fX4_take
  rw [h.1]
  by_cases w0 : aw = 0
  · rw [if_pos w0] at hm hto
    simp only [if_pos w0]
    have hk' := of_decide_eq_true hm
    obtain ⟨z1, z2, z3⟩ := a9 (by omega)
    have hr : rs.length < 20 := by
      by_cases z : 20 ≤ rs.length
      · exact absurd (decide_eq_true z) hto
      · omega
    subst w0 z1 z2 z3
    rw [if_pos (show nI 0 = 0 from rfl)]
    obtain ⟨τ, e, c1, c2⟩ := h.begin hb hr rfl k (by omega) (if k = 3 then 3 else 1)
    rw [t3, e]
    simp only [Option.bind_some]
    rw [gi_ne (by decide), c2.2 3, t3]
    have fin : CQ b (t + 1) ((if k = 3 then 3 else 1, 0), (rs, wr), (k - 3, 0, []), ([], true, 0, []), [], []) (sI (sI τ 38 4 0) 38 3 (nI (if k = 3 then 3 else 1))) := ⟨c, (c1.mono (by omega)).cast rfl rfl rfl rfl⟩
    by_cases k3 : k = 3
    · rw [if_pos (by rw [k3]; rfl)]
      rw [if_pos k3] at fin ⊢
      exact ⟨_, rfl, fin, (c2.i hb (by omega)).i hb (by omega)⟩
    · rw [if_neg (e_ne (k := 3) (by rfl) k3 (by omega) (by decide))]
      rw [if_neg k3] at fin ⊢
      exact ⟨_, rfl, fin, (c2.i hb (by omega)).i hb (by omega)⟩
  rw [if_neg w0] at hm hto
  simp only [if_neg w0]
  have hr := r0 (by omega)
  have hto' : ¬ (k = 25 ∧ 6 ≤ opnW wt) := fun z => hto (decide_eq_true z)
  rw [if_neg (e_ne (k := 0) (by rfl) w0 (by omega) (by decide))]
  by_cases w1 : aw = 1
  · rw [if_pos w1] at hm
    simp only [if_pos w1]
    have hk' := of_decide_eq_true hm
    obtain ⟨z1, z2, z3⟩ := a9 (by omega)
    subst w1 z1 z2 z3
    rw [if_pos (show nI 1 = 1 from rfl)]
    have go : ∀ υ wr', CK b t 1 0 (opnW []) wr' [] rs c [] so lo (-1) υ → gi υ 40 4 = v → hO (fX4_takeLord_32 b υ) (fun τ => CQ b (t + 1) ((if so = 2 then 2 else 3, 0), (rs, wr'), (so, v, va), (re, cn, op, le), [], []) τ ∧ frS b υ τ) := by
      intro υ wr' hu u4
      obtain ⟨τ, e, c1, c2⟩ := hu.lord hb hr v
      unfold fX4_takeLord_32
      rw [u4, e]
      simp only [Option.bind_some]
      rw [c1.bar (by decide) hr a3]
      simp only [Option.bind_some]
      by_cases s2 : so = 2
      · rw [if_pos s2, if_neg (by decide)]
        refine ⟨_, rfl, ?_, c2.i hb (by omega)⟩
        rw [if_pos s2]
        exact ⟨c, ((c1.s3 hb (by decide) 2).mono (by omega)).cast rfl rfl rfl rfl⟩
      · rw [if_neg s2, if_pos rfl]
        refine ⟨_, rfl, ?_, c2.i hb (by omega)⟩
        rw [if_neg s2]
        exact ⟨c, ((c1.s3 hb (by decide) 3).mono (by omega)).cast rfl rfl rfl rfl⟩
    have v4 := t4 hk'
    refine hO.then (P := fun τ => CQ b (t + 1) ((if so = 2 then 2 else 3, 0), (rs, if 0 ≤ v ∧ v ≤ 4 then wr else if wr = -1 then nI p else wr), (so, v, va), (re, cn, op, le), [], []) τ ∧ frS b σ τ) ?_ (fun τ q => ⟨τ, rfl, q⟩)
    unfold fX4_takeLord
    rw [v4, isLord_eq]
    simp only [Option.bind_some]
    rw [ite_tv]
    by_cases hl : 0 ≤ v ∧ v ≤ 4
    · rw [if_pos hl, if_pos hl]
      exact go σ wr h v4
    · rw [if_neg hl, if_neg hl, h.2.2.2.2.2.1]
      by_cases hwr : wr = -1
      · rw [if_pos hwr, if_pos hwr, t2]
        refine (go _ _ (h.s8 hb (nI p)) (by rw [gi_ne (by decide)]; exact v4)).mono (fun τ q => ⟨q.1, (frS.rf.i hb (by omega)).tr q.2⟩)
      · rw [if_neg hwr, if_neg hwr]
        exact go σ wr h v4
  rw [if_neg w1] at hm
  simp only [if_neg w1]
  rw [if_neg (e_ne (k := 1) (by rfl) w1 (by omega) (by decide))]
  by_cases w2 : aw = 2
  · rw [if_pos w2] at hm
    simp only [if_pos w2]
    obtain ⟨z1, z2, z3⟩ := a9 (by omega)
    subst w2 z1 z2 z3
    rw [if_pos (show nI 2 = 2 from rfl)]
    obtain ⟨τ, e, c1, c2⟩ := h.cond hb hr (by decide)
    rw [e]
    exact ⟨τ, rfl, ⟨c, (c1.mono (by omega)).cast rfl rfl rfl rfl⟩, c2⟩
  rw [if_neg w2] at hm
  simp only [if_neg w2]
  rw [if_neg (e_ne (k := 2) (by rfl) w2 (by omega) (by decide))]
  obtain ⟨hW, hW2⟩ := clW_bd (re := re) (cn := cn) a7 a8 (fun z => (b8 z).1)
  by_cases w3 : aw = 3
  · rw [if_pos w3] at hm
    simp only [if_pos w3]
    subst w3
    rw [if_pos (show nI 3 = 3 from rfl)]
    have hk' := of_decide_eq_true hm
    unfold fX4_takeUnit
    rw [t3]
    by_cases k25 : k = 25
    · rw [if_pos k25, if_pos (by rw [k25]; rfl)]
      obtain ⟨τ, e, c1, c2⟩ := h.hold hb hW 25
      rw [show (25 : Int32) = nI 25 from rfl, e]
      simp only [Option.bind_some]
      rw [c1.2.2.1, nI_1]
      exact ⟨_, rfl, ⟨c, (c1.s5 hb (opnW wt + 1)).cast rfl rfl rfl rfl⟩, c2.i hb (by omega)⟩
    · rw [if_neg k25, if_neg (e_ne (k := 25) (by rfl) k25 (by omega) (by decide))]
      have ext : ∀ (q : IT) (y : Int32), enI q = y → hO (((fX5_write b y σ).bind (fun σ5 => some (sI σ5 38 3 4))).bind (fun σ11 => some σ11)) (fun τ => CQ b (t + 1) ((4, pt), (rs, wr), (so, lo, va), (re, cn, op, le), it ++ [q], wt) τ ∧ frS b σ τ) := by
        intro q y hq
        obtain ⟨τ, e, c1, c2⟩ := h.wr hb ht y
        rw [e]
        simp only [Option.bind_some]
        refine ⟨_, rfl, ⟨c, (c1.s3 hb (by decide) 4).cast rfl rfl ?_ rfl⟩, c2.i hb (by omega)⟩
        rw [← hq]
        simp only [curC]
        by_cases z : pt = 0
        · rw [if_pos z, if_pos z, List.map_append]; rfl
        · rw [if_neg z, if_neg z, List.map_append]; simp
      by_cases k2 : k = 2
      · rw [if_pos k2, if_pos (by rw [k2]; rfl), t4 k2]
        exact ext (0, v) v rfl
      · rw [if_neg k2, if_neg (e_ne (k := 2) (by rfl) k2 (by omega) (by decide))]
        refine ext (1, nI (k - 9)) _ ?_
        show -(9 + nI (k - 9)) = -(nI k)
        rw [show (9 : Int32) = nI 9 from rfl, nI_add, show 9 + (k - 9) = k by omega]
  rw [if_neg w3] at hm
  simp only [if_neg w3]
  rw [if_neg (e_ne (k := 3) (by rfl) w3 (by omega) (by decide))]
  have w4 : aw = 4 := by omega
  subst w4
  unfold fX4_takeBehindUnit
  rw [t3, rank_eq k hk]
  simp only [Option.bind_some]
  have hc5 := crk_le k
  have step : 1 ≤ crk k → ∀ Q : PS → Prop, (∀ τ, CK b t 4 pt (opnW wt) wr (relR (crk k) (wt ++ ((if pt = 2 then [21 + op] else []) ++ (if pt = 0 then [] else bwS re cn)))) rs c ((if pt = 0 then it.map enI else va.map enI ++ (preC re cn ++ ((if pt = 2 then le.map enI else []) ++ it.map enI))) ++ relE (crk k) (wt ++ ((if pt = 2 then [21 + op] else []) ++ (if pt = 0 then [] else bwS re cn)))) so lo (if pt = 0 then -1 else nI (c + va.length)) τ → frS b σ τ → hO (if nI k = 6 then (fX4_takeIf b τ).bind (fun σ8 => some σ8) else (if nI k = 17 then (fX5_endRule b τ).bind (fun σ11 => some (sI σ11 38 3 0)) else (if nI k = 26 then some (sI (sI τ 38 2 (imax 0 ((gi τ 38 2) - 1))) 38 5 ((gi (sI τ 38 2 (imax 0 ((gi τ 38 2) - 1))) 38 5) - 1)) else (fX4_takeOperator (nI k) τ).bind (fun σ14 => some σ14)))) Q) → hO (((fX4_release b (nI (crk k)) σ).bind (fun σ5 => (if (gi σ5 40 3) = 6 then (fX4_takeIf b σ5).bind (fun σ8 => some σ8) else (if (gi σ5 40 3) = 17 then (fX5_endRule b σ5).bind (fun σ11 => some (sI σ11 38 3 0)) else (if (gi σ5 40 3) = 26 then some (sI (sI σ5 38 2 (imax 0 ((gi σ5 38 2) - 1))) 38 5 ((gi (sI σ5 38 2 (imax 0 ((gi σ5 38 2) - 1))) 38 5) - 1)) else (fX4_takeOperator (gi σ5 40 3) σ5).bind (fun σ14 => some σ14)))))).bind (fun σ14 => some σ14)) Q := by
    intro h1 Q hQ
    refine hO.then (P := Q) ?_ (fun τ q => ⟨τ, rfl, q⟩)
    refine hO.then (h.rel hb (by omega) (by omega) hW2 h1 hc5) (fun τ q => ?_)
    rw [q.2.2 3, t3]
    exact hQ τ q.1 q.2
  by_cases k18 : 18 ≤ k ∧ k ≤ 20
  · rw [if_pos k18]
    have hcr : 4 ≤ crk k ∧ (if crk k = 5 then 2 else 1) = rkW k := by
      have : k = 18 ∨ k = 19 ∨ k = 20 := by omega
      rcases this with rfl | rfl | rfl <;> decide
    refine step (by omega) _ (fun τ c1 c2 => ?_)
    obtain ⟨x1, x2⟩ := rel_app (by omega) hc5 ((if pt = 2 then [21 + op] else []) ++ (if pt = 0 then [] else bwS re cn)) (r := crk k) a7
    obtain ⟨y1, y2⟩ := low_x (re := re) (cn := cn) hcr.1 (fun z => (b8 z).1)
    rw [hcr.2] at x1 x2
    rw [y1, ite_self, List.append_nil] at x1
    have x3 : relR (crk k) (wt ++ ((if pt = 2 then [21 + op] else []) ++ (if pt = 0 then [] else bwS re cn))) = rlR (rkW k) wt ++ ((if pt = 2 then [21 + op] else []) ++ (if pt = 0 then [] else bwS re cn)) := by
      rw [x2, y2]
      by_cases z : rlR (rkW k) wt = []
      · rw [if_pos z, z]; rfl
      · rw [if_neg z]
    have hlen := rel_len (crk k) (wt ++ ((if pt = 2 then [21 + op] else []) ++ (if pt = 0 then [] else bwS re cn)))
    have hRl : (rlR (rkW k) wt ++ ((if pt = 2 then [21 + op] else []) ++ (if pt = 0 then [] else bwS re cn))).length < 32 := by rw [← x3]; omega
    rw [x1, x3] at c1
    obtain ⟨υ, e, d1, d2⟩ := c1.hold hb hRl k
    rw [if_neg (e_ne (k := 6) (by rfl) (show k ≠ 6 by omega) (by omega) (by decide)), if_neg (e_ne (k := 17) (by rfl) (show k ≠ 17 by omega) (by omega) (by decide)), if_neg (e_ne (k := 26) (by rfl) (show k ≠ 26 by omega) (by omega) (by decide))]
    unfold fX4_takeOperator
    rw [e]
    simp only [Option.bind_some]
    rw [if_neg (e_ne (k := 8) (by rfl) (show k ≠ 8 by omega) (by omega) (by decide)), if_neg (e_ne (k := 7) (by rfl) (show k ≠ 7 by omega) (by omega) (by decide)), show (21 : Int32) = nI 21 from rfl, show (24 : Int32) = nI 24 from rfl, within_tb]
    simp only [Option.bind_some]
    rw [ite_tb, if_neg (by unfold inR; rw [decide_eq_false (fun z => (nI_ge (show k < 21 by omega) (by decide)) z.1)]; decide)]
    refine ⟨_, rfl, ⟨c, (d1.s3 hb (by decide) 3).cast ?_ rfl ?_ rfl⟩, (c2.tr d2).i hb (by omega)⟩
    · have := (rl_ok (r := rkW k) a7 (rkW_2 k).1).2.1
      simp only [opnW]
      rw [if_neg (by omega), this]
    · simp only [curC]
      by_cases z : pt = 0
      · rw [if_pos z, if_pos z, List.map_append]
      · rw [if_neg z, if_neg z, List.map_append]; simp
  rw [if_neg k18] at hm
  rw [if_neg k18]
  by_cases ho : opnW wt = 0
  · rw [if_pos ho] at hm
    have hr1 := rl_0 ho
    have nk : k ≠ 26 := by
      intro z
      subst z
      split at hm
      · exact absurd hm (by decide)
      · split at hm <;> exact absurd hm (by decide)
    rw [if_neg nk]
    have rap : ∀ r X, 1 ≤ r → r ≤ 4 → relE r (wt ++ X) = (rlE 1 wt).map enI ++ relE r X ∧ relR r (wt ++ X) = relR r X := by
      intro r X q1 q2
      obtain ⟨x1, x2⟩ := rel_app q1 (by omega) X (r := r) a7
      rw [if_neg (show ¬ r = 5 by omega), hr1, if_pos rfl] at x1 x2
      exact ⟨x1, x2⟩
    by_cases p1 : pt = 1
    · rw [if_pos p1] at hm
      have hk' := of_decide_eq_true hm
      rw [if_neg (by omega), if_neg (by omega), if_neg (by omega)]
      have hcr : crk k = 3 := by
        have := crk_op (op := k - 21) (by omega)
        rw [show 21 + (k - 21) = k by omega] at this
        exact this
      subst p1
      refine step (by omega) _ (fun τ c1 c2 => ?_)
      rw [hcr] at c1
      simp only [if_neg (show ¬ (1 : Nat) = 2 by decide), if_neg (show ¬ (1 : Nat) = 0 by decide), List.nil_append] at c1
      obtain ⟨x1, x2⟩ := rap 3 (bwS re cn) (by decide) (by decide)
      rw [x1, x2, (bw_low (by decide)).1, (bw_low (by decide)).2, List.append_nil] at c1
      have hbl : (bwS re cn).length < 32 := by rcases bw_cases (re := re) (cn := cn) with e | e | e | e <;> rw [e] <;> decide
      obtain ⟨υ, e, d1, d2⟩ := c1.hold hb hbl k
      rw [if_neg (e_ne (k := 6) (by rfl) (show k ≠ 6 by omega) (by omega) (by decide)), if_neg (e_ne (k := 17) (by rfl) (show k ≠ 17 by omega) (by omega) (by decide)), if_neg (e_ne (k := 26) (by rfl) nk (by omega) (by decide))]
      unfold fX4_takeOperator
      rw [e]
      simp only [Option.bind_some]
      rw [if_neg (e_ne (k := 8) (by rfl) (show k ≠ 8 by omega) (by omega) (by decide)), if_neg (e_ne (k := 7) (by rfl) (show k ≠ 7 by omega) (by omega) (by decide)), show (21 : Int32) = nI 21 from rfl, show (24 : Int32) = nI 24 from rfl, within_tb]
      simp only [Option.bind_some]
      rw [ite_tb, if_pos (by unfold inR; exact decide_eq_true ⟨nI_le hk'.1 (by omega), nI_le hk'.2 (by decide)⟩)]
      refine ⟨_, rfl, ⟨c, ((d1.s3 hb (by decide) 3).s4 hb 2).cast ho ?_ ?_ rfl⟩, ((c2.tr d2).i hb (by omega)).i hb (by omega)⟩
      · simp only [clW]
        rw [if_pos trivial, if_neg (by decide), show 21 + (k - 21) = k by omega]; rfl
      · simp only [curC]
        rw [if_neg (by decide), if_pos trivial, List.map_append]; simp
    rw [if_neg p1] at hm
    by_cases p2 : pt = 2
    · rw [if_pos p2] at hm
      have hk' := of_decide_eq_true hm
      obtain ⟨o1, o2⟩ := b8 p2
      subst p2
      rw [if_neg (show ¬ k = 6 by omega)]
      have hcr : (crk k = 2 ∧ k = 8) ∨ (crk k = 1 ∧ k ≠ 8) := by
        rcases hk' with rfl | rfl | rfl <;> decide
      have cc : ∀ r, 1 ≤ r → r ≤ 2 → relE r (wt ++ ([21 + op] ++ bwS re cn)) = (rlE 1 wt).map enI ++ relE r ((21 + op) :: bwS re cn) ∧ relR r (wt ++ ([21 + op] ++ bwS re cn)) = relR r ((21 + op) :: bwS re cn) := fun r q1 q2 => rap r _ q1 (by omega)
      have ap : ∀ r : List Int32, (va.map enI ++ (preC re cn ++ (le.map enI ++ it.map enI))) ++ ((rlE 1 wt).map enI ++ r) = va.map enI ++ (preC re cn ++ (le.map enI ++ ((it ++ rlE 1 wt).map enI ++ r))) := by
        intro r
        rw [List.map_append]
        simp
      have r1e : relR 1 ((21 + op) :: bwS re cn) = [] := by
        simp only [relR]
        rw [if_neg (by rw [crk_op o1]; decide)]
        exact bw_1
      by_cases k17 : k = 17
      · rw [if_pos k17, if_neg (show ¬ (2 : Nat) = 0 by decide)]
        refine step (by omega) _ (fun τ c1 c2 => ?_)
        have hc1 : crk k = 1 := by omega
        rw [hc1] at c1
        simp only [if_pos trivial, if_neg (show ¬ (2 : Nat) = 0 by decide)] at c1
        rw [(cc 1 (by decide) (by decide)).1, (cc 1 (by decide) (by decide)).2, r1e, ap, rel_all o1 b6] at c1
        obtain ⟨υ, e, d1, d2⟩ := c1.fin hb hr (r := (so, lo, va, re ++ [(cn, op, le, it ++ rlE 1 wt)])) rfl rfl rfl (Or.inr rfl) (by omega) 0 0 0 (-1)
        rw [if_neg (e_ne (k := 6) (by rfl) (show k ≠ 6 by omega) (by omega) (by decide)), if_pos (by rw [k17]; rfl), e]
        refine ⟨_, rfl, ⟨_, (d1.mono (by omega)).cast ho rfl rfl rfl⟩, (c2.tr d2).i hb (by omega)⟩
      · rw [if_neg k17, if_pos (by omega)]
        refine step (by omega) _ (fun τ c1 c2 => ?_)
        rw [if_neg (e_ne (k := 6) (by rfl) (show k ≠ 6 by omega) (by omega) (by decide)), if_neg (e_ne (k := 17) (by rfl) k17 (by omega) (by decide)), if_neg (e_ne (k := 26) (by rfl) nk (by omega) (by decide))]
        simp only [if_pos trivial, if_neg (show ¬ (2 : Nat) = 0 by decide)] at c1
        by_cases k8 : k = 8
        · have hc1 : crk k = 2 := by omega
          obtain ⟨e1, e2⟩ := rel_and (le := le) (ri := it ++ rlE 1 wt) o1 b6
          rw [hc1, (cc 2 (by decide) (by decide)).1, (cc 2 (by decide) (by decide)).2, ap, e1] at c1
          have hRl : (relR 2 ((21 + op) :: bwS re cn)).length < 32 := by
            have := rel_len 2 ((21 + op) :: bwS re cn)
            have hbl : (bwS re cn).length ≤ 2 := by rcases bw_cases (re := re) (cn := cn) with e | e | e | e <;> rw [e] <;> decide
            simp only [List.length_cons] at this
            omega
          obtain ⟨υ, e, d1, d2⟩ := c1.hold hb hRl k
          unfold fX4_takeOperator
          rw [e]
          simp only [Option.bind_some]
          rw [if_pos (by rw [k8]; rfl)]
          refine ⟨_, rfl, ⟨c, ((d1.s3 hb (by decide) 3).s4 hb 1).cast ho ?_ ?_ rfl⟩, ((c2.tr d2).i hb (by omega)).i hb (by omega)⟩
          · simp only [clW]
            rw [if_neg (by decide), if_neg (by decide), decide_eq_false (show ¬ k = 7 by omega), e2, k8]; rfl
          · simp only [curC]
            rw [if_neg (by decide), if_neg (by decide), decide_eq_false (show ¬ k = 7 by omega)]
            simp
        · have k7 : k = 7 := by omega
          have hc1 : crk k = 1 := by omega
          obtain ⟨e1, e2⟩ := rel_or (le := le) (ri := it ++ rlE 1 wt) o1 b6
          rw [hc1, (cc 1 (by decide) (by decide)).1, (cc 1 (by decide) (by decide)).2, r1e, ap, e1] at c1
          obtain ⟨υ, e, d1, d2⟩ := c1.hold hb (by decide) k
          unfold fX4_takeOperator
          rw [e]
          simp only [Option.bind_some]
          rw [if_neg (e_ne (k := 8) (by rfl) k8 (by omega) (by decide)), if_pos (by rw [k7]; rfl)]
          refine ⟨_, rfl, ⟨c, ((d1.s3 hb (by decide) 3).s4 hb 1).cast ho ?_ ?_ rfl⟩, ((c2.tr d2).i hb (by omega)).i hb (by omega)⟩
          · simp only [clW]
            rw [if_neg (by decide), if_neg (by decide), decide_eq_true k7, e2, k7]; rfl
          · simp only [curC]
            rw [if_neg (by decide), if_neg (by decide), decide_eq_true k7]
            simp
    · rw [if_neg p2] at hm
      have hk' := of_decide_eq_true hm
      have p0 : pt = 0 := by omega
      subst p0
      have hc1 : crk k = 1 := by rcases hk' with rfl | rfl <;> decide
      simp only [if_pos trivial, if_neg (show ¬ (0 : Nat) = 2 by decide), List.append_nil] at step
      have cc := rap 1 [] (by decide) (by decide)
      rw [List.append_nil] at cc
      have cc1 : relE 1 wt = (rlE 1 wt).map enI := by rw [cc.1]; simp [relE]
      have cc2 : relR 1 wt = [] := cc.2
      by_cases k6 : k = 6
      · rw [if_pos k6]
        refine step (by omega) _ (fun τ c1 c2 => ?_)
        rw [hc1, cc1, cc2, ← List.map_append] at c1
        obtain ⟨υ, e, d1, d2⟩ := c1.cond hb hr (by decide)
        rw [if_pos (by rw [k6]; rfl), e]
        refine ⟨_, rfl, ⟨c, (d1.mono (by omega)).cast ho rfl ?_ ?_⟩, c2.tr d2⟩
        · simp only [curC]
          rw [if_neg (by decide), if_neg (by decide), pre_nil]
          simp
        · rw [List.length_map, if_neg (by decide)]
      · have k17 : k = 17 := by omega
        rw [if_neg k6, if_pos k17, if_pos rfl]
        refine step (by omega) _ (fun τ c1 c2 => ?_)
        rw [hc1, cc1, cc2, ← List.map_append] at c1
        obtain ⟨υ, e, d1, d2⟩ := c1.fin hb hr (r := (so, lo, it ++ rlE 1 wt, [])) rfl rfl (by simp [ccS]) (Or.inl ⟨rfl, rfl⟩) (by omega) 0 0 0 (-1)
        rw [if_neg (e_ne (k := 6) (by rfl) k6 (by omega) (by decide)), if_pos (by rw [k17]; rfl), e]
        refine ⟨_, rfl, ⟨_, (d1.mono (by omega)).cast ho rfl rfl rfl⟩, (c2.tr d2).i hb (by omega)⟩
  · rw [if_neg ho] at hm
    have hk' := of_decide_eq_true hm
    subst hk'
    rw [if_pos rfl]
    refine step (by decide) _ (fun τ c1 c2 => ?_)
    rw [show crk 26 = 1 from rfl] at c1
    obtain ⟨x1, x2⟩ := rel_app (r := 1) (by decide) (by decide) ((if pt = 2 then [21 + op] else []) ++ (if pt = 0 then [] else bwS re cn)) a7
    rw [if_neg (show ¬ (1 : Nat) = 5 by decide)] at x1 x2
    obtain ⟨y1, y2, y3⟩ := rl_ok (r := 1) a7 (by decide)
    rcases rl_1 (w := wt) with e | ⟨u, e⟩
    · rw [e] at y2; simp only [opnW] at y2; omega
    · rw [e] at x1 x2 y2
      rw [if_neg (show ¬ 25 :: u = [] by simp)] at x1 x2
      rw [List.append_nil] at x1
      rw [List.cons_append] at x2
      rw [x1, x2] at c1
      rw [if_neg (by decide), if_neg (by decide), if_pos (show nI 26 = 26 from rfl)]
      have e38 : imax 0 (gi τ 38 2 - 1) = nI (u ++ ((if pt = 2 then [21 + op] else []) ++ (if pt = 0 then [] else bwS re cn))).length := by
        rw [c1.2.2.2.2.2.2.1.1, List.length_cons, nI_pred]
        unfold imax
        by_cases z : (u ++ ((if pt = 2 then [21 + op] else []) ++ (if pt = 0 then [] else bwS re cn))).length = 0
        · rw [z]; rfl
        · have hl := rel_len 1 (wt ++ ((if pt = 2 then [21 + op] else []) ++ (if pt = 0 then [] else bwS re cn)))
          rw [x2, List.length_cons] at hl
          rw [if_pos (l_lt (k := 0) (by rfl) (by omega) (by omega))]
      have d1 := c1.pop hb
      rw [e38, d1.2.2.1]
      have d2 : opnW u + 1 = opnW wt := y2
      rw [← d2, nI_pred]
      refine ⟨_, rfl, ⟨c, ((d1.s5 hb (opnW u)).mono (by omega)).cast ?_ ?_ ?_ rfl⟩, (c2.i hb (by omega)).i hb (by omega)⟩
      · rw [e]; rfl
      · simp only [clW]; rw [e]; rfl
      · simp only [curC]
        by_cases z : pt = 0
        · rw [if_pos z, if_pos z, List.map_append]
        · rw [if_neg z, if_neg z, List.map_append]; simp
