/-! THE HEAP WHILE IT IS MADE: n cells are there, kinds as they will be -/
def HN (n : Nat) (vi : Nat → Nat → Int32) (vl : Nat → Nat → Int64) (vr : Nat → Nat → Option Nat) : PH := ((n, SH0.2), vi, vl, vr)
def OKH (n : Nat) (vi : Nat → Nat → Int32) (vl : Nat → Nat → Int64) (vr : Nat → Nat → Option Nat) : Prop := (∀ k, n ≤ k → ∀ j, vi k j = 0 ∧ vl k j = 0 ∧ vr k j = none) ∧ ∀ k j q, vr k j = some q → q < n
theorem OKH.up {n n' : Nat} {vi : Nat → Nat → Int32} {vl : Nat → Nat → Int64} {vr : Nat → Nat → Option Nat} (h : OKH n vi vl vr) (hn : n ≤ n') : OKH n' vi vl vr :=
  ⟨fun k hk => h.1 k (Nat.le_trans hn hk), fun k j q hq => Nat.lt_of_lt_of_le (h.2 k j q hq) hn⟩
theorem OKH.i {n k j : Nat} {x : Int32} {vi : Nat → Nat → Int32} {vl : Nat → Nat → Int64} {vr : Nat → Nat → Option Nat} (h : OKH n vi vl vr) (hk : k < n) : OKH n (u2 vi k j x) vl vr :=
  ⟨fun a ha b => ⟨by unfold u2; rw [if_neg (by omega)]; exact (h.1 a ha b).1, (h.1 a ha b).2⟩, h.2⟩
theorem OKH.l {n k j : Nat} {x : Int64} {vi : Nat → Nat → Int32} {vl : Nat → Nat → Int64} {vr : Nat → Nat → Option Nat} (h : OKH n vi vl vr) (hk : k < n) : OKH n vi (u2 vl k j x) vr :=
  ⟨fun a ha b => ⟨(h.1 a ha b).1, by unfold u2; rw [if_neg (by omega)]; exact (h.1 a ha b).2.1, (h.1 a ha b).2.2⟩, h.2⟩
theorem OKH.r {n k j q : Nat} {vi : Nat → Nat → Int32} {vl : Nat → Nat → Int64} {vr : Nat → Nat → Option Nat} (h : OKH n vi vl vr) (hk : k < n) (hq : q < n) : OKH n vi vl (u2 vr k j (some q)) := by
  refine ⟨fun a ha b => ⟨(h.1 a ha b).1, (h.1 a ha b).2.1, by unfold u2; rw [if_neg (by omega)]; exact (h.1 a ha b).2.2⟩, fun a b z hz => ?_⟩
  unfold u2 at hz
  split at hz
  · split at hz
    · cases hz; exact hq
    · exact h.2 _ _ _ hz
  · exact h.2 _ _ _ hz
/-- the rows of a new grid -/
def rG (vr : Nat → Nat → Option Nat) (n N : Nat) : Nat → Nat → Option Nat := fun k j => if k = n then (if j < N then some (n + 1 + j) else none) else vr k j
theorem OKH.g {n N : Nat} {vi : Nat → Nat → Int32} {vl : Nat → Nat → Int64} {vr : Nat → Nat → Option Nat} (h : OKH n vi vl vr) : OKH (n + 1 + N) vi vl (rG vr n N) := by
  refine ⟨fun a ha b => ⟨(h.1 a (by omega) b).1, (h.1 a (by omega) b).2.1, by unfold rG; rw [if_neg (by omega)]; exact (h.1 a (by omega) b).2.2⟩, fun a b z hz => ?_⟩
  unfold rG at hz
  split at hz
  · split at hz
    · cases hz; omega
    · cases hz
  · have := h.2 _ _ _ hz
    omega
def vok (n : Nat) (v : Value) : Bool := match v with
  | .ref k => decide (k < n) || decide (SB ≤ k)
  | _ => true
def sok (n : Nat) (st : List Value) : Bool := st.all (vok n)
def lok (n : Nat) (L : List (Nat × Value)) : Bool := L.all (fun q => vok n q.2)
def AGn (ad ad' : Nat → Nat) (n : Nat) : Prop := ∀ k, k < n ∨ SB ≤ k → ad' k = ad k
theorem tr_ag {ad ad' : Nat → Nat} {n : Nat} (h : AGn ad ad' n) {v : Value} (hv : vok n v = true) : tr ad' v = tr ad v := by
  cases v with
  | ref k =>
    simp only [vok, Bool.or_eq_true, decide_eq_true_eq] at hv
    show Value.ref (ad' k) = Value.ref (ad k)
    rw [h k hv]
  | _ => rfl
theorem st_ag {ad ad' : Nat → Nat} {n : Nat} (h : AGn ad ad' n) {st : List Value} (hs : sok n st = true) : st.map (tr ad') = st.map (tr ad) := by
  apply List.map_congr_left
  intro v hv
  exact tr_ag h (List.all_eq_true.mp hs v hv)
theorem L_ag {ad ad' : Nat → Nat} {n : Nat} (h : AGn ad ad' n) {L : List (Nat × Value)} (hs : lok n L = true) : L.map (trL ad') = L.map (trL ad) := by
  apply List.map_congr_left
  intro v hv
  unfold trL
  rw [tr_ag h (List.all_eq_true.mp hs v hv)]
theorem wl_ag {dA : Nat → ClassId} {ad ad' : Nat → Nat} {n : Nat} {vi : Nat → Nat → Int32} {vl : Nat → Nat → Int64} {vr : Nat → Nat → Option Nat} (h : AGn ad ad' n) (hk : OKH n vi vl vr) {k : Nat} (hn : k < n) : cE dA ad' (HN n vi vl vr) k = cE dA ad (HN n vi vl vr) k := by
  have e : ∀ j, (vr k j).map ad' = (vr k j).map ad := by
    intro j
    cases hq : vr k j with
    | none => rfl
    | some q => rw [Option.map_some, Option.map_some, h q (Or.inl (hk.2 k j q hq))]
  unfold cE fvE HN
  simp only [e]
theorem EXT_ag {g : GP} {ad ad' : Nat → Nat} {A : Nat → Prop} {s : State} (h : ∀ k, SB ≤ k → ad' k = ad k) (he : EXT g ad A s) : EXT g ad' A s := by
  obtain ⟨e1, e2, e3, ⟨z, hz, ez⟩, e4, e5, e6⟩ := he
  unfold EXT
  rw [h SB (Nat.le_refl _), h (SB + 1) (by omega), h (SB + 2) (by omega)]
  refine ⟨e1, e2, e3, ⟨z, hz, ?_⟩, e4, e5, e6⟩
  have : tr ad' z = tr ad z := by
    rcases hz with rfl | rfl
    · rfl
    · show Value.ref (ad' (SB + 3)) = Value.ref (ad (SB + 3))
      rw [h (SB + 3) (by omega)]
  rw [this]
  exact ez
theorem MC_ag {g : GP} {M : Mth} {d : Nat} {p : Program} {R : Room} {s : State} {m : MethodId} {args : Array Value} {meth : Method} {c : Code} {D : va_G} {dA : Nat → ClassId} {A : Nat → Prop} {ad ad' : Nat → Nat} (h : ∀ k, SB ≤ k → ad' k = ad k) (hM : MC g M d p R s m args meth c D dA A ad) : MC g M d p R s m args meth c D dA A ad' :=
  ⟨hM.1, hM.2.1, hM.2.2.1, hM.2.2.2.1, hM.2.2.2.2.1, hM.2.2.2.2.2.1, EXT_ag h hM.2.2.2.2.2.2⟩
section ZR
variable {g : GP} {M M' : Mth} {d dc nc ns mc ms na : Nat} {post : Option Value → PH → Prop} {pc : Nat} {L : List (Nat × Value)} {st av : List Value} {n n1 ci N index : Nat} {C : String} {T : u_T} {vi vi1 : Nat → Nat → Int32} {vl vl1 : Nat → Nat → Int64} {vr vr1 : Nat → Nat → Option Nat}
/-- one cell more -/
theorem wl_push {dA : Nat → ClassId} {ad ad' : Nat → Nat} {q : Nat} {x : va_E} (h : AGn ad ad' n) (hk : OKH n vi vl vr) (hq : ad' n = q) (hx : cE dA ad' (HN (n + 1) vi vl vr) n = x) : wl dA ad (HN n vi vl vr) ++ [(q, x)] = wl dA ad' (HN (n + 1) vi vl vr) := by
  show (List.range n).map _ ++ _ = (List.range (n + 1)).map _
  rw [List.range_succ, List.map_append]
  congr 1
  · apply List.map_congr_left
    intro k hkn
    have hkn := List.mem_range.mp hkn
    show (ad k, cE dA ad (HN n vi vl vr) k) = (ad' k, cE dA ad' (HN (n + 1) vi vl vr) k)
    rw [h k (Or.inl hkn)]
    have := wl_ag (dA := dA) h hk hkn
    show (ad k, cE dA ad (HN n vi vl vr) k) = (ad k, cE dA ad' (HN n vi vl vr) k)
    rw [this]
  · show [(q, x)] = [(ad' n, cE dA ad' (HN (n + 1) vi vl vr) n)]
    rw [hq, hx]
theorem AG_of {ad ad' ad2 : Nat → Nat} {n n' n2 : Nat} (h : ∀ k, k < n ∨ n' ≤ k → ad' k = ad k) (hn : n ≤ n') (hag : AG ad' ad2 n' n2) : AG ad ad2 n n2 := by
  refine ⟨Nat.le_trans hn hag.1, fun k hk => ?_⟩
  rw [hag.2 k (by have := hag.1; omega)]
  exact h k (by have := hag.1; omega)
theorem Z_new (K : CLok ci C T N) (hdef : ∀ j, j < N → defaultValue (tyX ci j) = if isR ci j then .null else .int 0) (ho : SH0.2 n = (ci, N)) (hk : OKH n vi vl vr) (hn : n < SB) (hL : lok n L = true) (hS : sok n st = true) (hcl : Cond.classLink M.1.cls index C ∈ TBL) (hin : Cond.instantiable C N ∈ TBL) (hini : Cond.initialized C ∈ TBL) (hd : decode M.2.1 pc = .ok (.new index, 3)) (kk : X g M d nc ns post (pc + 3) L (.ref n :: st) (HN (n + 1) vi vl vr)) : X g M d (nc + 1) (ns + N) post pc L st (HN n vi vl vr) := by
  intro p e R s m args below meth c D dA A Q ad H locs cells slots ls hM hW hc hs hl ret
  have ht := hM.1.2.2.2.2
  refine va_new (cl := clX) (ci := ci) (fs := (List.range N).map (fun j => if isR ci j then .null else .int 0)) hM.1.1 hM.1.2.1 ht K.2.2.1 (tyX ci) K.2.2.2.1 hM.1.2.2.2.1 (ht _ hcl) (ht _ hin) (ht _ hini) hM.2.2.1 hW.1 hW.2.1 hW.2.2 hM.2.2.2.2.2.1 K.1 (fun j hj => ?_) (by omega) (by omega) hd (fun q H1 hP hD hSS => ?_)
  · rw [hdef j hj]
    unfold vp_V
    rw [List.getD_eq_getElem?_getD, List.getElem?_map, List.getElem?_range hj]
    rfl
  · have hag : AGn ad (fun k => if k = n then q else ad k) n := fun k hkk => by
      show (if k = n then q else ad k) = ad k
      rw [if_neg (by omega)]
    have hx : cE dA (fun k => if k = n then q else ad k) (HN (n + 1) vi vl vr) n = .inr (ci, (List.range N).map (fun j => if isR ci j then .null else .int 0)) := by
      rw [cE_obj (h := HN (n + 1) vi vl vr) ho K.2.1]
      congr 2
      apply List.map_congr_left
      intro j _
      unfold fvE HN
      obtain ⟨z1, z2, z3⟩ := hk.1 n (Nat.le_refl _) j
      simp only [z1, z3]
      rfl
    have e1 := wl_push (dA := dA) hag hk (q := q) (by simp) hx
    rw [e1] at hP hD
    have e2 : (Value.ref q :: st.map (tr ad)) = (.ref n :: st).map (tr (fun k => if k = n then q else ad k)) := by
      show _ = tr _ (.ref n) :: _
      rw [st_ag hag hS]
      simp [tr]
    rw [e2]
    refine kk p e R s m args below meth c D dA A Q _ H1 locs (cells + 1) (slots + N) ls (MC_ag (fun k hk => hag k (Or.inr hk)) hM) ⟨hP, hD, hSS⟩ (by omega) (by omega) (by rw [L_ag hag hL]; exact hl) ?_
    intro v h2 ad2 H' locs' cells' slots' ls' pc' ri z1 z2 z3 z4 z5 z6 z7
    exact ret v h2 ad2 H' locs' cells' slots' ls' pc' ri z1 z2 z3 (AG_of (n := n) (n' := n + 1) (fun k hk => by show (if k = n then q else ad k) = ad k; rw [if_neg (by omega)]) (Nat.le_succ n) z4) z5 z6 z7
theorem Z_newa {atype : ArrayType} {t : Nat} {cnt : Int32} {a0 : vp_A} (ti : Nat) (hty : newarray.typeOf atype = tTy t) (hti : ∀ dA : Nat → ClassId, (tyl dA)[ti]? = some (dA t, tTy t)) (hno : ∀ C, tTy t ≠ .object C) (ho : SH0.2 n = (t, N)) (ha : ∀ cA : ClassId, vp_cell cA a0 = arrV cA N (fun _ => defaultValue (tTy t))) (hce : ∀ (dA : Nat → ClassId) (ad : Nat → Nat), cE dA ad (HN (n + 1) vi vl vr) n = .inl (dA t, a0)) (hcn : ¬ cnt < 0) (hcN : cnt.toNatClampNeg = N) (hby : N * componentBytes (tTy t) ≤ 536870912) (hk : OKH n vi vl vr) (hn : n < SB) (hL : lok n L = true) (hS : sok n st = true) (hw : Cond.arrayClass (tTy t) ∈ TBL) (hd : decode M.2.1 pc = .ok (.newarray atype, 2)) (kk : X g M d nc ns post (pc + 2) L (.ref n :: st) (HN (n + 1) vi vl vr)) : X g M d (nc + 1) (ns + N) post pc L (.int cnt :: st) (HN n vi vl vr) := by
  intro p e R s m args below meth c D dA A Q ad H locs cells slots ls hM hW hc hs hl ret
  have hts := hM.1.2.2.2.2
  refine va_newa (cl := clX) (ty := tTy t) (a0 := a0) hM.1.1 hM.1.2.1 (by rw [hty]; exact hts _ hw) hty hM.2.2.1 hW.1 hW.2.1 hW.2.2 hM.2.2.2.2.2.1 ha hcn hcN hby (by omega) (by omega) hd (fun q cA H1 hK1 hP hD hSS => ?_)
  have hcA : cA = dA t := by
    have h1 := (hK1.2 (tyl dA).length (cA, tTy t) (by simp)).2
    have h2 := (hM.2.2.1.2 ti (dA t, tTy t) (hti dA)).2
    unfold va_RA at h1 h2
    cases htt : tTy t with
    | object C => exact absurd htt (hno C)
    | _ =>
      rw [htt] at h1 h2
      exact Option.some.inj (h1.symm.trans h2)
  subst hcA
  have hag : AGn ad (fun k => if k = n then q else ad k) n := fun k hkk => by
    show (if k = n then q else ad k) = ad k
    rw [if_neg (by omega)]
  have e1 := wl_push (dA := dA) hag hk (q := q) (by simp) (hce dA _)
  rw [e1] at hP hD
  have e2 : (Value.ref q :: st.map (tr ad)) = (.ref n :: st).map (tr (fun k => if k = n then q else ad k)) := by
    show _ = tr _ (.ref n) :: _
    rw [st_ag hag hS]
    simp [tr]
  show W p g.1 e R s m args below meth c H1 locs (cells + 1) (slots + N) Q (F0 m (pc + 2) ls (Value.ref q :: st.map (tr ad)))
  rw [e2]
  refine kk p e R s m args below meth c D dA A Q _ H1 locs (cells + 1) (slots + N) ls (MC_ag (fun k hk => hag k (Or.inr hk)) hM) ⟨hP, hD, hSS⟩ (by omega) (by omega) (by rw [L_ag hag hL]; exact hl) ?_
  intro v h2 ad2 H' locs' cells' slots' ls' pc' ri z1 z2 z3 z4 z5 z6 z7
  exact ret v h2 ad2 H' locs' cells' slots' ls' pc' ri z1 z2 z3 (AG_of (n := n) (n' := n + 1) (fun k hk => by show (if k = n then q else ad k) = ad k; rw [if_neg (by omega)]) (Nat.le_succ n) z4) z5 z6 z7
theorem Z_objInit {a : Nat} (hdd : 1 ≤ d) (hsum : (st.map fun v => v.category).sum ≤ 8) (hw : Cond.methodLink M.1.cls index objectInit ∈ TBL) (hw2 : Cond.instanceMethod objectInit ∈ TBL) (hw3 : Cond.code objectInit ⟨#[0xb1]⟩ 1 none ∈ TBL) {h : PH} (hd : decode M.2.1 pc = .ok (.invokespecial index, 3)) (kk : X g M d nc ns post (pc + 3) L st h) : X g M d nc ns post pc L (.ref a :: st) h := by
  intro p e R s m args below meth c D dA A Q ad H locs cells slots ls hM hW hc hs hl ret
  have ht := hM.1.2.2.2.2
  obtain ⟨hf1, hf2⟩ := hM.2.2.2.2.1
  refine W.objInit (rest := st.map (tr ad)) hM.1.1 hM.1.2.1 hM.1.2.2.2.1 (ht _ hw) (ht _ hw2) (ht _ hw3) rfl (by rw [hM.1.2.2.1]; exact hl.1) rfl hd (by omega) ?_ (kk p e R s m args below meth c D dA A Q ad H locs cells slots ls hM hW hc hs hl ret)
  rw [sum_tr]
  show 2 * 0 + _ + 12 ≤ _
  omega
/-- behind a constructor that makes cells -/
theorem Z_behind {p : Program} {e : Env} {R : Room} {s : State} {m : MethodId} {args : Array Value} {below : List Frame} {meth : Method} {c : Code} {D : va_G} {dA : Nat → ClassId} {A : Nat → Prop} {Q : State → Prop} {ad : Nat → Nat} {H : Heap} {locs : List Loc} {cells slots : Nat} {ls : Array Slot} {st0 : List Value} {a : Array Value}
    (hM : MC g M d p R s m args meth c D dA A ad) (hW : WD D dA A ad (HN n vi vl vr) s H locs) (hc : cells + (nc + mc) ≤ R.cells) (hs : slots + (ns + ms) ≤ R.slots) (hl : lv_has ls M.2.2.1 (L.map (trL ad)))
    (ret : ∀ (v : Option Value) (h' : PH) (ad' : Nat → Nat) (H' : Heap) (locs' : List Loc) (cells' slots' : Nat) (ls' : Array Slot) (pc' : Nat) (ri : Instr), decode M.2.1 pc' = .ok (ri, 1) → RI M.2.2.2 ri v → post v h' → AG ad ad' (HN n vi vl vr).1.1 h'.1.1 → WD D dA A ad' h' s H' locs' → cells' ≤ R.cells → slots' ≤ R.slots → W p g.1 e R s m args below meth c H' locs' cells' slots' Q (F0 m pc' ls' ((v.map (tr ad')).toList)))
    (hr : va_Run p g.1 e R s m args below meth c H locs cells slots mc ms (F0 m pc ls st0) (st.map (tr ad)) (QCN D dA ad (HN n vi vl vr) (pS none (HN n1 vi1 vl1 vr1)) (va_A (wl dA ad (HN n vi vl vr)) H.size) a) (va_A (wl dA ad (HN n vi vl vr)) H.size))
    (hn1 : n1 ≤ SB) (hL : lok n L = true) (hS : sok n st = true) (kk : X g M d nc ns post (pc + 3) L st (HN n1 vi1 vl1 vr1)) : W p g.1 e R s m args below meth c H locs cells slots Q (F0 m pc ls st0) := by
  have hAA := (PRE_of hM hW).1
  refine W_after hr hW.2.2 hAA (fun v h' ad' H1 locs1 hp hag hP1 hD1 hS1 => ?_)
  obtain ⟨rfl, rfl⟩ := hp
  have hag' : AG ad ad' n n1 := hag
  have hagn : AGn ad ad' n := fun k hk => hag'.2 k (by omega)
  have e2 : ((none : Option Value).map (tr ad')).toList ++ st.map (tr ad) = st.map (tr ad') := by
    rw [st_ag hagn hS]
    rfl
  rw [e2]
  refine kk p e R s m args below meth c D dA A Q ad' H1 locs1 (cells + mc) (slots + ms) ls (MC_ag (fun k hk => hagn k (Or.inr hk)) hM) ⟨hP1, hD1.weaken (fun _ q _ z => hAA _ z), hS1⟩ (by omega) (by omega) (by rw [L_ag hagn hL]; exact hl) ?_
  intro v h2 ad2 H' locs' cells' slots' ls' pc' ri z1 z2 z3 z4 z5 z6 z7
  exact ret v h2 ad2 H' locs' cells' slots' ls' pc' ri z1 z2 z3 (AG_of (n := n) (n' := n1) hag'.2 hag'.1 z4) z5 z6 z7
theorem Z_callI {b : Nat} (cb : CB M' na) (hnm : M'.1.name = "<init>") (hrt : M'.2.2.2 = none) (hl1 : Cond.methodLink M.1.cls index M'.1 ∈ TBL) (hl2 : Cond.instanceMethod M'.1 ∈ TBL) (hav : av.length = na) (hdd : dc + 1 ≤ d) (hsum : (st.map fun v => v.category).sum ≤ 8) (hd : decode M.2.1 pc = .ok (.invokespecial index, 3))
    (hC : CON g M' dc mc ms (.ref b :: av) (HN n vi vl vr) (pS none (HN n1 vi1 vl1 vr1))) (hn1 : n1 ≤ SB) (hL : lok n L = true) (hS : sok n st = true) (kk : X g M d nc ns post (pc + 3) L st (HN n1 vi1 vl1 vr1)) : X g M d (nc + mc) (ns + ms) post pc L (av.reverse ++ .ref b :: st) (HN n vi vl vr) := by
  intro p e R s m args below meth c D dA A Q ad H locs cells slots ls hM hW hc hs hl ret
  have ht := hM.1.2.2.2.2
  obtain ⟨hAA, hPRE⟩ := PRE_of hM hW
  obtain ⟨hf1, hf2⟩ := hM.2.2.2.2.1
  have hml := cb.2.2.2
  have e0 : (av.reverse ++ .ref b :: st).map (tr ad) = (av.map (tr ad)).reverse ++ .ref (ad b) :: st.map (tr ad) := by
    rw [List.map_append, List.map_reverse]
    rfl
  rw [e0]
  exact Z_behind hM hW hc hs hl ret (va_runI (As := av.map (tr ad)) (rest := st.map (tr ad)) ⟨hM.1.1, hM.1.2.1, hM.1.2.2.1, hM.1.2.2.2.1, ht⟩ (hC D dA ad H.size) (cwI (bytes := M'.2.1) (maxL := M'.2.2.1) na ht cb.ws (by unfold wsM; rw [hrt]) rfl rfl (ht _ cb.1) (ht _ hl1) (ht _ hl2) hnm cb.2.2.1 ⟨by show dc + 1 ≤ R.frames; omega, by show 8 + (_ + 11) + 64 * dc ≤ R.locals; omega⟩) ⟨PRE_blind, fun U hU hWm => ⟨rfl, hPRE U hU hWm⟩⟩ rfl (by rw [List.length_map]; exact hav) hl.1 rfl (lv_room (by rw [sum_tr]; exact hsum)) hd ⟨by omega, by omega⟩) hn1 hL hS kk
theorem Z_callIN {b : Nat} {host : String} (cb : CB M' na) (hnm : M'.1.name = "<init>") (hrt : M'.2.2.2 = none) (hl1 : Cond.methodLinkNest M.1.cls index M'.1 host ∈ NST) (hl2 : Cond.instanceMethod M'.1 ∈ TBL) (hav : av.length = na) (hdd : dc + 1 ≤ d) (hsum : (st.map fun v => v.category).sum ≤ 8) (hd : decode M.2.1 pc = .ok (.invokespecial index, 3))
    (hC : CON g M' dc mc ms (.ref b :: av) (HN n vi vl vr) (pS none (HN n1 vi1 vl1 vr1))) (hn1 : n1 ≤ SB) (hL : lok n L = true) (hS : sok n st = true) (kk : X g M d nc ns post (pc + 3) L st (HN n1 vi1 vl1 vr1)) : X g M d (nc + mc) (ns + ms) post pc L (av.reverse ++ .ref b :: st) (HN n vi vl vr) := by
  intro p e R s m args below meth c D dA A Q ad H locs cells slots ls hM hW hc hs hl ret
  have ht := hM.1.2.2.2.2
  obtain ⟨hAA, hPRE⟩ := PRE_of hM hW
  obtain ⟨hf1, hf2⟩ := hM.2.2.2.2.1
  have hml := cb.2.2.2
  have e0 : (av.reverse ++ .ref b :: st).map (tr ad) = (av.map (tr ad)).reverse ++ .ref (ad b) :: st.map (tr ad) := by
    rw [List.map_append, List.map_reverse]
    rfl
  rw [e0]
  have hws : wsM M' = Cond.code M'.1 M'.2.1 M'.2.2.1 none :: TBL := by unfold wsM; rw [hrt]
  exact Z_behind hM hW hc hs hl ret (va_runIN (As := av.map (tr ad)) (rest := st.map (tr ad)) ⟨hM.1.1, hM.1.2.1, hM.1.2.2.1, hM.1.2.2.2.1, ht⟩ (hC D dA ad H.size) ⟨va_cnB na ht cb.ws hws rfl rfl (hM.2.1 _ hl1) (ht _ cb.1) cb.2.2.1 ⟨by show dc + 1 ≤ R.frames; omega, by show 8 + (_ + 11) + 64 * dc ≤ R.locals; omega⟩, hnm, ht _ hl2⟩ ⟨PRE_blind, fun U hU hWm => ⟨rfl, hPRE U hU hWm⟩⟩ rfl (by rw [List.length_map]; exact hav) hl.1 rfl (lv_room (by rw [sum_tr]; exact hsum)) hd ⟨by omega, by omega⟩) hn1 hL hS kk
end ZR
