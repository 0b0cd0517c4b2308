theorem TBL_good : ∀ w ∈ TBL, (w.onTables && w.keeps) = true ∨ ∃ ty, w = .arrayClass ty := fun w hw => good_of_word (List.mem_filter.mp hw).2
theorem good_TBL {ws : List Cond} (hw : ∀ w ∈ ws, w ∈ TBL) : GoodIn TBL ws := fun w h => ⟨hw w h, TBL_good w (hw w h)⟩
theorem ao_warm {s U : State} (hal : s.vm.Alike U.vm) {t : FieldType} (h : va_Nw (.arrayOver (.array t)) s) : va_Nw (.arrayOver (.array t)) U := by
  obtain ⟨comp, c, k, h1, h2, h3, h4, h5⟩ := arrayOverA_spec h
  obtain ⟨k', hk', he⟩ := hal.2.2 _ _ h3
  have e1 : U.vm.findClass (FieldType.array t).toString = some comp := by rw [hal.findClass]; exact h1
  have e5 : U.vm.findClass ("[" ++ (FieldType.array t).toString) = some c := by rw [hal.findClass]; exact h5
  have e2 : (U.vm.classes.findIdx? fun x => match x.kind with | .array component _ => component == comp | _ => false) = some c := by
    rw [hal.findIdx?_eq _ (fun _ => rfl)]; exact h2
  have e4 : k'.kind = .array comp (.array t) := by rw [he]; exact h4
  unfold va_Nw
  simp only [Cond.before, Cond.holds, Cond.value, e1, Option.bind_some]
  generalize hX : Array.findIdx? _ U.vm.classes = Y
  have hY : Y = some c := hX.symm.trans e2
  subst hY
  simp [hk', e4, e5]
theorem nst_warm {w : Cond} (hw : w ∈ NST) {s U : State} (hW : s.WarmedH U.vm) (h : va_Nw w s) : va_Nw w U := by
  have h2 := (List.mem_filter.mp hw).2
  cases w with
  | methodLinkNest a b c d => exact va_Nw.warmM hW h
  | arrayOver t =>
    cases t with
    | array t' => exact ao_warm hW.alike h
    | _ => cases h2
  | _ => cases h2
def wsM (M : Mth) : List Cond := .code M.1 M.2.1 M.2.2.1 M.2.2.2 :: TBL
def rmX (d mc ms : Nat) : Room := { frames := d, cells := mc, slots := ms, locals := 64 * d }
def PRE (g : GP) (D : va_G) (dA : Nat → ClassId) (ad : Nat → Nat) (h : PH) (A : Nat → Prop) (U : State) : Prop :=
  va_P D clX (wl dA ad h) U.heap ∧ va_D (fun _ => True) (wl dA ad h) ∧ va_K D clX (tyl dA) U ∧ (∀ w ∈ NST, va_Nw w U) ∧ EXT g ad A U
def QCN (D : va_G) (dA : Nat → ClassId) (ad : Nat → Nat) (h : PH) (post : Option Value → PH → Prop) (A : Nat → Prop) : Array Value → State → Outcome → State → Prop := fun _ st oc t =>
  (∃ (v : Option Value) (h' : PH) (ad' : Nat → Nat), oc = .returned (v.map (tr ad')) ∧ post v h' ∧ AG ad ad' h.1.1 h'.1.1 ∧ va_P D clX (wl dA ad' h') t.heap ∧ va_D A (wl dA ad' h')) ∧ va_F A st t
/-- A METHOD'S CONTRACT: with these arguments, from this heap, it returns with 'post' -/
def CON (g : GP) (M : Mth) (d mc ms : Nat) (av : List Value) (h : PH) (post : Option Value → PH → Prop) : Prop :=
  ∀ (D : va_G) (dA : Nat → ClassId) (ad : Nat → Nat) (sz : Nat), Met g.1 M.1 (wsM M) (rmX d mc ms) (va_Pc (av.map (tr ad)) (fun U => U.heap.size = sz ∧ PRE g D dA ad h (va_A (wl dA ad h) sz) U)) (QCN D dA ad h post (va_A (wl dA ad h) sz)) mc ms (va_A (wl dA ad h) sz)
theorem lg_sl_tr (ad : Nat → Nat) (av : List Value) : (lg_sl (av.map (tr ad))).length = (lg_sl av).length := by
  induction av with
  | nil => rfl
  | cons a l ih =>
    cases a <;> simp_all [lg_sl, tr, Value.category]
theorem lv_args_tr (ad : Nat → Nat) (av : List Value) : ∀ i, lv_args i (av.map (tr ad)) = (lv_args i av).map (trL ad) := by
  induction av with
  | nil => intro i; rfl
  | cons a l ih =>
    intro i
    show (i, tr ad a) :: lv_args (if (tr ad a).category = 2 then i + 2 else i + 1) (l.map (tr ad)) = _
    rw [ih, tr_cat]
    rfl
theorem CON.of {g : GP} {M : Mth} {d mc ms : Nat} {av : List Value} {h : PH} {post : Option Value → PH → Prop} (hpl : plainName M.1.cls = true) (hlen : (lg_sl av).length ≤ M.2.2.1) (hX : X g M d mc ms post 0 (lv_args 0 av) [] h) : CON g M d mc ms av h post := by
  intro D dA ad sz
  refine Met.ofW (cc := M.2.1) (maxL := M.2.2.1) (ret := M.2.2.2) hpl rfl ?_
  intro p e s m args below meth c s₁ B hml hv
  obtain ⟨rfl, hsz, hP, hD0, hK, hN, hE⟩ := hv
  have hx := B.exec
  have hb := B.bytes
  have hr := B.returns
  have hts := atoms_spec (ws := wsM M) B.pre
  have hown : s.vm.findClass M.1.cls = some m.cls := findClass_of_methodNamed B.named
  have hlocks := B.notSynchronized
  have hin : meth.name = M.1.name := (name_of_methodNamed B.named B.method).1
  subst hsz
  have hD := hD0.self (sz := s.heap.size)
  have hA : ∀ q : Nat, s.heap.size ≤ q → va_A (wl dA ad h) s.heap.size q := fun q h => Or.inr h
  have hl := lv_entry (av.map (tr ad)) (n := M.2.2.1) (by rw [lg_sl_tr]; exact hlen)
  rw [lg_entry_eq]
  generalize (lg_sl (av.map (tr ad)) ++ List.replicate (M.2.2.1 - (lg_sl (av.map (tr ad))).length) Slot.unset).toArray = ls at hl ⊢
  rw [lv_args_tr] at hl
  refine hX p e (rmX d mc ms) s m _ below meth c D dA _ _ ad s.heap [] 0 0 ls ⟨⟨hx, hb, hml, hown, fun w hw => hts w (List.mem_cons_of_mem _ hw)⟩, hN, hK, fun q => hin.trans q, ⟨Nat.le_refl _, Nat.le_refl _⟩, hA, hE⟩ ⟨hP, hD, va_S.rf⟩ (by show 0 + mc ≤ mc; omega) (by show 0 + ms ≤ ms; omega) hl ?_
  intro v h' ad' H' locs' cells' slots' ls' pc' ri hd hri hp hag hw hc hs
  refine W.widen (k := mc) (n := ms) hc hs ?_
  rcases hri with ⟨hr1, rfl, rfl⟩ | ⟨ty, x, hr1, rfl, rfl, hn⟩ | ⟨x, hr1, rfl, rfl⟩
  · exact W.vret hx hb (hr.trans hr1) (fun t ht hWm => ⟨⟨none, h', ad', rfl, hp, hag, by rw [ht]; exact hw.1, hw.2.1⟩, hw.2.2.F ht⟩) hw.2.2.2.2 hd
  · exact W.zret hx hb (hr.trans hr1) hn (fun t ht hWm => ⟨⟨some (.int x), h', ad', rfl, hp, hag, by rw [ht]; exact hw.1, hw.2.1⟩, hw.2.2.F ht⟩) hw.2.2.2.2 hd
  · exact W.lret hx hb (hr.trans hr1) (fun t ht hWm => ⟨⟨some (.long x), h', ad', rfl, hp, hag, by rw [ht]; exact hw.1, hw.2.1⟩, hw.2.2.F ht⟩) hw.2.2.2.2 hd
theorem CON.mono {g : GP} {M : Mth} {d mc ms : Nat} {av : List Value} {h : PH} {post post' : Option Value → PH → Prop} (hc : CON g M d mc ms av h post) (hp : ∀ v h', post v h' → post' v h') : CON g M d mc ms av h post' := by
  intro D dA ad sz p e ha hcx hk s m args below hf h1 h2 h3
  obtain ⟨k, o, a1, a2, a3, ⟨⟨⟨v, h', ad', q1, q2, q3⟩, q4⟩, q5⟩⟩ := hc D dA ad sz p e ha hcx hk s m args below hf h1 h2 h3
  exact ⟨k, o, a1, a2, a3, ⟨⟨⟨v, h', ad', q1, hp _ _ q2, q3⟩, q4⟩, q5⟩⟩
section CA
variable {p : Program} {l : Launch} {e : Env} {R : Room} {s : State} {m : MethodId} {args : Array Value} {below : List Frame} {meth : Method} {c : Code} {H : Heap} {locs : List Loc} {cells slots : Nat} {Q : State → Prop}
variable {pc : Nat} {ls : Array Slot} {rest st0 : List Value} {a : Array Value} {A0 A1 : Nat → Prop} {H0 : Heap} {mc ms : Nat} {D : va_G} {dA : Nat → ClassId} {ad : Nat → Nat} {h : PH}
theorem W_after {postc : Option Value → PH → Prop} (hr : va_Run p l e R s m args below meth c H locs cells slots mc ms (F0 m pc ls st0) rest (QCN D dA ad h postc A1 a) A1) (hS : va_S A0 H0 H locs) (hA : ∀ q, A1 q → A0 q)
    (kk : ∀ (v : Option Value) (h' : PH) (ad' : Nat → Nat) (H1 : Heap) (locs1 : List Loc), postc v h' → AG ad ad' h.1.1 h'.1.1 → va_P D clX (wl dA ad' h') H1 → va_D A1 (wl dA ad' h') → va_S A0 H0 H1 locs1 → W p l e R s m args below meth c H1 locs1 (cells + mc) (slots + ms) Q (F0 m (pc + 3) ls ((v.map (tr ad')).toList ++ rest))) : W p l e R s m args below meth c H locs cells slots Q (F0 m pc ls st0) := by
  intro T hT X
  obtain ⟨v0, st₀, t, T', L, h0, X', hL, e1, e2, ⟨⟨v, h', ad', hv, hp, hag, hP1, hD1⟩, hz, hk⟩, st⟩ := hr T hT X
  cases hv
  rw [h0] at hz hk
  obtain ⟨t2, a1, b1⟩ := kk v h' ad' T'.heap (locs ++ L) hp hag (by rw [e1]; exact hP1) hD1
    ⟨Nat.le_trans hS.1 (by rw [e1]; exact hz), fun q h1 h2 => by rw [e1, hk q (Nat.lt_of_lt_of_le h1 hS.1) (fun z => h2 (hA q z))]; exact hS.2.1 q h1 h2, fun q hq => by
      rcases List.mem_append.mp hq with h | h
      · exact hS.2.2 q h
      · exact hA _ (hL q h)⟩ T' rfl X'
  exact ⟨t2, st t2 a1, b1⟩
end CA
/-- what a callee's contract wants of the caller's state -/
theorem PRE_of {g : GP} {M : Mth} {d : Nat} {p : Program} {R : Room} {s : State} {m : MethodId} {args : Array Value} {meth : Method} {c : Code} {D : va_G} {dA : Nat → ClassId} {A : Nat → Prop} {ad : Nat → Nat} {h : PH} {H : Heap} {locs : List Loc} (hM : MC g M d p R s m args meth c D dA A ad) (hW : WD D dA A ad h s H locs) :
    (∀ q, va_A (wl dA ad h) H.size q → A q) ∧ ∀ U : State, U.heap = H → s.WarmedH U.vm → U.heap.size = H.size ∧ PRE g D dA ad h (va_A (wl dA ad h) H.size) U := by
  obtain ⟨h1, hN, hK, h4, h5, hA, e1, e2, e3, ⟨z, hz, ez⟩, e4, e5, e6⟩ := hM
  obtain ⟨hP, hD, hS⟩ := hW
  have hAA : ∀ q, va_A (wl dA ad h) H.size q → A q := by
    intro q hq
    rcases hq with ⟨k, e, he⟩ | hq
    · exact hD.2 k (q, e) he
    · exact hA q (Nat.le_trans hS.1 hq)
  refine ⟨hAA, fun U hU hWm => ⟨by rw [hU], by rw [hU]; exact hP, hD.weaken (fun _ _ _ _ => trivial), va_K.moved hWm.alike hK, fun w hw => nst_warm hw hWm (hN w hw), vk_R.warm hWm e1, ?_, ?_, ⟨z, hz, ?_⟩, ?_, ?_, ?_⟩⟩
  · rw [hU]
    exact vk_S.moved hWm.alike ((e2.kept hS.2.1).narrow hAA)
  · rw [hU]
    exact va_Z.moved hWm.alike ((e3.kept hS.2.1).narrow hAA)
  · rw [hU]
    exact va_Z.moved hWm.alike ((ez.kept hS.2.1).narrow hAA)
  · rw [hU]
    exact va_X.moved hWm.alike (e4.kept (hS.2.1 _ e5 e6))
  · rw [hU]
    exact Nat.lt_of_lt_of_le e5 hS.1
  · exact fun q => e6 (hAA _ q)
theorem PRE_blind {g : GP} {D : va_G} {dA : Nat → ClassId} {ad : Nat → Nat} {h : PH} {av : List Value} {sz : Nat} : FrameBlind (va_Pc av (fun U => U.heap.size = sz ∧ PRE g D dA ad h (va_A (wl dA ad h) sz) U)) := by
  intro a U f mk q
  obtain ⟨q0, q1, qP, qD, qK, qN, e1, e2, e3, ⟨z, hz, ez⟩, e4, e5, e6⟩ := q
  have hN : ∀ w ∈ NST, va_Nw w (U.calling f mk a) := by
    intro w hw
    have h2 := (List.mem_filter.mp hw).2
    have h3 := qN w hw
    cases w with
    | methodLinkNest b1 b2 b3 b4 => exact va_Nw.same (u := U) (U := U.calling f mk a) rfl rfl h3
    | arrayOver t =>
      cases t with
      | array t' => exact ao_warm (s := U) (U := U.calling f mk a) (Vm.Alike.refl U.vm) h3
      | _ => cases h2
    | _ => cases h2
  exact ⟨q0, q1, qP, qD, va_K.moved (u := U) (U := U.calling f mk a) (Vm.Alike.refl U.vm) qK, hN, vk_R.same (u := U) (U := U.calling f mk a) rfl e1, vk_S.moved (u := U) (U := U.calling f mk a) (Vm.Alike.refl U.vm) e2, va_Z.moved (u := U) (U := U.calling f mk a) (Vm.Alike.refl U.vm) e3, ⟨z, hz, va_Z.moved (u := U) (U := U.calling f mk a) (Vm.Alike.refl U.vm) ez⟩, va_X.moved (u := U) (U := U.calling f mk a) (Vm.Alike.refl U.vm) e4, e5, e6⟩
theorem sum_tr (ad : Nat → Nat) (st : List Value) : ((st.map (tr ad)).map fun v => v.category).sum = (st.map fun v => v.category).sum := by
  rw [List.map_map]
  have : ((fun v : Value => v.category) ∘ tr ad) = fun v => v.category := funext (fun v => tr_cat ad v)
  rw [this]
/-- the words of a call, by its kind -/
def CB (M' : Mth) (n : Nat) : Prop := Cond.initialized M'.1.cls ∈ TBL ∧ Cond.code M'.1 M'.2.1 M'.2.2.1 M'.2.2.2 ∈ TBL ∧ (M'.1.cls ≠ "java/lang/invoke/MethodHandle" ∧ M'.1.cls ≠ "java/lang/invoke/VarHandle" ∧ (parseMethodDescriptor M'.1.desc).map (fun d => d.parameters.length) = some n) ∧ M'.2.2.1 ≤ 45
theorem CB.ws {M' : Mth} {n : Nat} (h : CB M' n) : GoodIn TBL (wsM M') := good_TBL (fun w hw => by
  rcases List.mem_cons.mp hw with rfl | hw
  · exact h.2.1
  · exact hw)
section CX
variable {g : GP} {M M' : Mth} {d dc nc ns mc ms n : Nat} {post postc : Option Value → PH → Prop} {pc : Nat} {L : List (Nat × Value)} {st : List Value} {h : PH} {index : Nat}
/-- behind a call that makes no cell -/
theorem X_behind {p : Program} {e : Env} {R : Room} {s : State} {m : MethodId} {args : Array Value} {below : List Frame} {meth : Method} {c : Code} {D : va_G} {dA : Nat → ClassId} {A : Nat → Prop} {Q : State → Prop} {ad : Nat → Nat} {H : Heap} {locs : List Loc} {cells slots : Nat} {ls : Array Slot} {st0 : List Value} {a : Array Value}
    (hM : MC g M d p R s m args meth c D dA A ad) (hW : WD D dA A ad h s H locs) (hc : cells + nc ≤ R.cells) (hs : slots + ns ≤ R.slots) (hl : lv_has ls M.2.2.1 (L.map (trL ad)))
    (ret : ∀ (v : Option Value) (h' : PH) (ad' : Nat → Nat) (H' : Heap) (locs' : List Loc) (cells' slots' : Nat) (ls' : Array Slot) (pc' : Nat) (ri : Instr), decode M.2.1 pc' = .ok (ri, 1) → RI M.2.2.2 ri v → post v h' → AG ad ad' h.1.1 h'.1.1 → WD D dA A ad' h' s H' locs' → cells' ≤ R.cells → slots' ≤ R.slots → W p g.1 e R s m args below meth c H' locs' cells' slots' Q (F0 m pc' ls' ((v.map (tr ad')).toList)))
    (hr : va_Run p g.1 e R s m args below meth c H locs cells slots 0 0 (F0 m pc ls st0) (st.map (tr ad)) (QCN D dA ad h postc (va_A (wl dA ad h) H.size) a) (va_A (wl dA ad h) H.size))
    (hst : ∀ v h', postc v h' → h'.1.1 = h.1.1) (kk : ∀ v h', postc v h' → X g M d nc ns post (pc + 3) L (v.toList ++ st) h') : W p g.1 e R s m args below meth c H locs cells slots Q (F0 m pc ls st0) := by
  have hAA := (PRE_of hM hW).1
  refine W_after hr hW.2.2 hAA (fun v h' ad' H1 locs1 hp hag hP1 hD1 hS1 => ?_)
  have hn := hst v h' hp
  have had : ad' = ad := by
    funext k
    exact hag.2 k (by rw [hn]; omega)
  subst had
  have e2 : (v.map (tr ad')).toList ++ st.map (tr ad') = (v.toList ++ st).map (tr ad') := by
    cases v <;> simp
  rw [e2]
  refine kk v h' hp p e R s m args below meth c D dA A Q ad' H1 locs1 (cells + 0) (slots + 0) ls hM ⟨hP1, hD1.weaken (fun _ q _ z => hAA _ z), hS1⟩ (by omega) (by omega) hl ?_
  intro v h2 ad2 H' locs' cells' slots' ls' pc' ri z1 z2 z3 z4 z5 z6 z7
  exact ret v h2 ad2 H' locs' cells' slots' ls' pc' ri z1 z2 z3 (by rw [← hn]; exact z4) z5 z6 z7
theorem X_callV {b : Nat} {av : List Value} {ci N : Nat} {T : u_T} (cb : CB M' n) (hl1 : Cond.methodLink M.1.cls index M'.1 ∈ TBL) (hl2 : Cond.instanceMethod M'.1 ∈ TBL) (hl3 : Cond.selects M'.1.cls M'.1 M'.1 ∈ TBL) (K : CLok ci M'.1.cls T N) (hb : b < h.1.1) (ho : h.1.2 b = (ci, N)) (hav : av.length = n) (hdd : dc + 1 ≤ d) (hsum : (st.map fun v => v.category).sum ≤ 8) (hd : decode M.2.1 pc = .ok (.invokevirtual index, 3))
    (hC : CON g M' dc 0 0 (.ref b :: av) h postc) (hst : ∀ v h', postc v h' → h'.1.1 = h.1.1) (kk : ∀ v h', postc v h' → X g M d nc ns post (pc + 3) L (v.toList ++ st) h') : X g M d nc ns post pc L (av.reverse ++ .ref b :: st) h := by
  intro p e R s m args below meth c D dA A Q ad H locs cells slots ls hM hW hc hs hl ret
  have ht := hM.1.2.2.2.2
  obtain ⟨hAA, hPRE⟩ := PRE_of hM hW
  obtain ⟨hf1, hf2⟩ := hM.2.2.2.2.1
  have hml := cb.2.2.2
  have hG : GoodIn TBL (wsV M.1.cls index M'.1.cls M'.1 (wsM M')) := good_TBL (fun w hw => by
    rcases List.mem_append.mp hw with hw | hw
    · simp only [List.mem_cons, List.not_mem_nil, or_false] at hw
      rcases hw with rfl | rfl | rfl | rfl
      · exact hl1
      · exact hl2
      · exact hl3
      · exact cb.1
    · exact (cb.ws w hw).1)
  have e0 : (av.reverse ++ .ref b :: st).map (tr ad) = (av.map (tr ad)).reverse ++ .ref (ad b) :: st.map (tr ad) := by
    rw [List.map_append, List.map_reverse]
    rfl
  rw [e0]
  refine X_behind hM hW hc hs hl ret (va_runV (As := av.map (tr ad)) (rest := st.map (tr ad)) ⟨hM.1.1, hM.1.2.1, hM.1.2.2.1, hM.1.2.2.2.1, ht⟩ (hC D dA ad H.size) (cwV n ht hG rfl rfl rfl ⟨rfl, cb.2.2.1⟩ ⟨by show dc + 1 ≤ R.frames; omega, by show 8 + (_ + 11) + 64 * dc ≤ R.locals; omega⟩) ⟨PRE_blind, ?_, fun U hU hWm => ⟨rfl, hPRE U hU hWm⟩⟩ rfl (by rw [List.length_map]; exact hav) hl.1 rfl (lv_room (by rw [sum_tr]; exact hsum)) hd ⟨by omega, by omega⟩) hst kk
  exact va_recv hM.2.2.1 hW.1 K.1 (q0 := b) (by rw [wl_get hb, cE_obj ho K.2.1])
theorem X_callS {av : List Value} (cb : CB M' n) (hl1 : Cond.methodLink M.1.cls index M'.1 ∈ TBL) (hl2 : Cond.static M'.1 ∈ TBL) (hav : av.length = n) (hdd : dc + 1 ≤ d) (hsum : (st.map fun v => v.category).sum ≤ 8) (hd : decode M.2.1 pc = .ok (.invokestatic index, 3))
    (hC : CON g M' dc 0 0 av h postc) (hst : ∀ v h', postc v h' → h'.1.1 = h.1.1) (kk : ∀ v h', postc v h' → X g M d nc ns post (pc + 3) L (v.toList ++ st) h') : X g M d nc ns post pc L (av.reverse ++ st) h := by
  intro p e R s m args below meth c D dA A Q ad H locs cells slots ls hM hW hc hs hl ret
  have ht := hM.1.2.2.2.2
  obtain ⟨hAA, hPRE⟩ := PRE_of hM hW
  obtain ⟨hf1, hf2⟩ := hM.2.2.2.2.1
  have hml := cb.2.2.2
  have hG : GoodIn TBL (va_wsS M.1.cls index M'.1 (wsM M')) := good_TBL (fun w hw => by
    rcases List.mem_append.mp hw with hw | hw
    · simp only [List.mem_cons, List.not_mem_nil, or_false] at hw
      rcases hw with rfl | rfl | rfl
      · exact hl1
      · exact hl2
      · exact cb.1
    · exact (cb.ws w hw).1)
  have e0 : (av.reverse ++ st).map (tr ad) = (av.map (tr ad)).reverse ++ st.map (tr ad) := by
    rw [List.map_append, List.map_reverse]
  rw [e0]
  exact X_behind hM hW hc hs hl ret (va_runS (As := av.map (tr ad)) (rest := st.map (tr ad)) ⟨hM.1.1, hM.1.2.1, hM.1.2.2.1, hM.1.2.2.2.1, ht⟩ (hC D dA ad H.size) (va_cwS n ht hG rfl rfl rfl cb.2.2.1 ⟨by show dc + 1 ≤ R.frames; omega, by show 8 + (_ + 11) + 64 * dc ≤ R.locals; omega⟩) ⟨PRE_blind, fun U hU hWm => ⟨rfl, hPRE U hU hWm⟩⟩ rfl (by rw [List.length_map]; exact hav) hl.1 rfl (lv_room (by rw [sum_tr]; exact hsum)) hd ⟨by omega, by omega⟩) hst kk
theorem X_callN {av : List Value} {host : String} (cb : CB M' n) (hl1 : Cond.methodLinkNest M.1.cls index M'.1 host ∈ NST) (hl2 : Cond.static M'.1 ∈ TBL) (hav : av.length = n) (hdd : dc + 1 ≤ d) (hsum : (st.map fun v => v.category).sum ≤ 8) (hd : decode M.2.1 pc = .ok (.invokestatic index, 3))
    (hC : CON g M' dc 0 0 av h postc) (hst : ∀ v h', postc v h' → h'.1.1 = h.1.1) (kk : ∀ v h', postc v h' → X g M d nc ns post (pc + 3) L (v.toList ++ st) h') : X g M d nc ns post pc L (av.reverse ++ st) h := by
  intro p e R s m args below meth c D dA A Q ad H locs cells slots ls hM hW hc hs hl ret
  have ht := hM.1.2.2.2.2
  obtain ⟨hAA, hPRE⟩ := PRE_of hM hW
  obtain ⟨hf1, hf2⟩ := hM.2.2.2.2.1
  have hml := cb.2.2.2
  have e0 : (av.reverse ++ st).map (tr ad) = (av.map (tr ad)).reverse ++ st.map (tr ad) := by
    rw [List.map_append, List.map_reverse]
  rw [e0]
  exact X_behind hM hW hc hs hl ret (va_runSN (As := av.map (tr ad)) (rest := st.map (tr ad)) ⟨hM.1.1, hM.1.2.1, hM.1.2.2.1, hM.1.2.2.2.1, ht⟩ (hC D dA ad H.size) ⟨va_cnB n ht cb.ws rfl rfl rfl (hM.2.1 _ hl1) (ht _ cb.1) cb.2.2.1 ⟨by show dc + 1 ≤ R.frames; omega, by show 8 + (_ + 11) + 64 * dc ≤ R.locals; omega⟩, ht _ hl2, trivial⟩ ⟨PRE_blind, fun U hU hWm => ⟨rfl, hPRE U hU hWm⟩⟩ rfl (by rw [List.length_map]; exact hav) hl.1 rfl (lv_room (by rw [sum_tr]; exact hsum)) hd ⟨by omega, by omega⟩) hst kk
end CX
