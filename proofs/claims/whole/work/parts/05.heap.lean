def CLok (ci : Nat) (C : String) (T : u_T) (N : Nat) : Prop := clX[ci]? = some (C, T, N) ∧ ci < 10 ∧ (∀ w ∈ u_ws C T N, w ∈ TBL) ∧ (∀ k, k < N → parseFieldDescriptor (T k).2.2.1 = some (tyX ci k)) ∧ (∀ a, a < N → ∀ b, b < N → a ≠ b → (T a).2.1 ≠ (T b).2.1)
theorem CL0 : CLok 0 RX0 TX0 5 := ⟨rfl, by decide, by decide +kernel, tyX0_ok, nmX0⟩
theorem CL1 : CLok 1 RX1 TX1 14 := ⟨rfl, by decide, by decide +kernel, tyX1_ok, nmX1⟩
theorem CL2 : CLok 2 RX2 TX2 16 := ⟨rfl, by decide, by decide +kernel, tyX2_ok, nmX2⟩
theorem CL3 : CLok 3 RX3 TX3 12 := ⟨rfl, by decide, by decide +kernel, tyX3_ok, nmX3⟩
theorem CL4 : CLok 4 RX4 TX4 9 := ⟨rfl, by decide, by decide +kernel, tyX4_ok, nmX4⟩
theorem CL5 : CLok 5 RX5 TX5 9 := ⟨rfl, by decide, by decide +kernel, tyX5_ok, nmX5⟩
theorem CL6 : CLok 6 RX6 TX6 5 := ⟨rfl, by decide, by decide +kernel, tyX6_ok, nmX6⟩
theorem CL7 : CLok 7 RX7 TX7 2 := ⟨rfl, by decide, by decide +kernel, tyX7_ok, nmX7⟩
theorem CL8 : CLok 8 RX8 TX8 7 := ⟨rfl, by decide, by decide +kernel, tyX8_ok, nmX8⟩
theorem CL9 : CLok 9 RX9 TX9 80 := ⟨rfl, by decide, by decide +kernel, tyX9_ok, nmX9⟩
theorem fs_get {ad : Nat → Nat} {h : PH} {k ci N j : Nat} (hj : j < N) : ((List.range N).map (fun j => fvE ad h k ci j))[j]? = some (fvE ad h k ci j) := by
  rw [List.getElem?_map, List.getElem?_range hj]
  rfl
theorem vp_nar_bool_01 (x : Int32) (hx : x = 0 ∨ x = 1) : narrow .boolean (.int x) = .int x := by
  rcases hx with rfl | rfl <;> decide
section XH
variable {g : GP} {M : Mth} {d nc ns : Nat} {post : Option Value → PH → Prop} {pc : Nat} {L : List (Nat × Value)} {st : List Value} {h : PH} {ci N k j index : Nat} {C : String} {T : u_T}
theorem X_getI (K : CLok ci C T N) (hk : k < h.1.1) (ho : h.1.2 k = (ci, N)) (hj : j < N) (hr : isR ci j = false) (hw : Cond.fieldLink M.1.cls index (T j).1 (T j).2.1 (T j).2.2.1 ∈ TBL) (hd : decode M.2.1 pc = .ok (.getfield index, 3)) (kk : X g M d nc ns post (pc + 3) L (.int (h.2.1 k j) :: st) h) : X g M d nc ns post pc L (.ref k :: st) h := by
  intro p e R s m args below meth c D dA A Q ad H locs cells slots ls hM hW hc hs hl ret
  obtain ⟨hcl, hc10, hin, hty, hnm⟩ := K
  refine va_get (cl := clX) hM.1.1 hM.1.2.1 hM.1.2.2.2.2 hin hM.1.2.2.2.1 hM.2.2.1 hW.1 k (by rw [wl_get hk, cE_obj ho hc10]) hcl j hj (hM.1.2.2.2.2 _ hw) (fun _ q => q) (v := .int (h.2.1 k j)) ?_ hd (kk p e R s m args below meth c D dA A Q ad H locs cells slots ls hM hW hc hs hl ret)
  rw [fs_get hj]
  simp [fvE, hr]
theorem X_getR {q : Nat} (K : CLok ci C T N) (hk : k < h.1.1) (ho : h.1.2 k = (ci, N)) (hj : j < N) (hr : isR ci j = true) (hq : h.2.2.2 k j = some q) (hw : Cond.fieldLink M.1.cls index (T j).1 (T j).2.1 (T j).2.2.1 ∈ TBL) (hd : decode M.2.1 pc = .ok (.getfield index, 3)) (kk : X g M d nc ns post (pc + 3) L (.ref q :: st) h) : X g M d nc ns post pc L (.ref k :: st) h := by
  intro p e R s m args below meth c D dA A Q ad H locs cells slots ls hM hW hc hs hl ret
  obtain ⟨hcl, hc10, hin, hty, hnm⟩ := K
  refine va_get (cl := clX) hM.1.1 hM.1.2.1 hM.1.2.2.2.2 hin hM.1.2.2.2.1 hM.2.2.1 hW.1 k (by rw [wl_get hk, cE_obj ho hc10]) hcl j hj (hM.1.2.2.2.2 _ hw) (fun _ q => q) (v := .ref (ad q)) ?_ hd (kk p e R s m args below meth c D dA A Q ad H locs cells slots ls hM hW hc hs hl ret)
  rw [fs_get hj]
  simp [fvE, hr, hq, va_rf]
theorem wl_wI {dA : Nat → ClassId} {ad : Nat → Nat} {x : Int32} {e : va_E} (he : e = cE dA ad (wI h k j x) k) : (wl dA ad h).set k (ad k, e) = wl dA ad (wI h k j x) := wl_set rfl he (fun _ q => cE_wI_ne q)
theorem wl_wJ {dA : Nat → ClassId} {ad : Nat → Nat} {x : Int64} {e : va_E} (he : e = cE dA ad (wJ h k j x) k) : (wl dA ad h).set k (ad k, e) = wl dA ad (wJ h k j x) := wl_set rfl he (fun _ q => cE_wJ_ne q)
theorem wl_wR {dA : Nat → ClassId} {ad : Nat → Nat} {x : Option Nat} {e : va_E} (he : e = cE dA ad (wR h k j x) k) : (wl dA ad h).set k (ad k, e) = wl dA ad (wR h k j x) := wl_set rfl he (fun _ q => cE_wR_ne q)
theorem fs_wI {ad : Nat → Nat} {x : Int32} (hr : isR ci j = false) : ((List.range N).map (fun j => fvE ad h k ci j)).set j (.int x) = (List.range N).map (fun i => fvE ad (wI h k j x) k ci i) := by
  apply range_set
  · simp [fvE, hr, wI, u2]
  · intro i hi
    simp [fvE, wI, u2, hi]
theorem fs_wR {ad : Nat → Nat} {q : Nat} (hr : isR ci j = true) : ((List.range N).map (fun j => fvE ad h k ci j)).set j (.ref (ad q)) = (List.range N).map (fun i => fvE ad (wR h k j (some q)) k ci i) := by
  apply range_set
  · simp [fvE, hr, wR, u2, va_rf]
  · intro i hi
    simp [fvE, wR, u2, hi]
theorem X_putI {x : Int32} (K : CLok ci C T N) (hk : k < h.1.1) (ho : h.1.2 k = (ci, N)) (hj : j < N) (hr : tyX ci j = .int) (hf : (T j).2.2.2 = false) (hw : Cond.fieldLink M.1.cls index (T j).1 (T j).2.1 (T j).2.2.1 ∈ TBL) (hd : decode M.2.1 pc = .ok (.putfield index, 3)) (kk : X g M d nc ns post (pc + 3) L st (wI h k j x)) : X g M d nc ns post pc L (.int x :: .ref k :: st) h := by
  intro p e R s m args below meth c D dA A Q ad H locs cells slots ls hM hW hc hs hl ret
  obtain ⟨hcl, hc10, hin, hty, hnm⟩ := K
  have hr' : isR ci j = false := by unfold isR; rw [hr]; rfl
  have e0 : (wl dA ad h)[k]? = some (ad k, .inr (ci, (List.range N).map (fun j => fvE ad h k ci j))) := by rw [wl_get hk, cE_obj ho hc10]
  have e1 : (wl dA ad h).set k (ad k, .inr (ci, ((List.range N).map (fun j => fvE ad h k ci j)).set j (.int x))) = wl dA ad (wI h k j x) := wl_wI (by rw [fs_wI hr', cE_obj (h := wI h k j x) ho hc10])
  refine va_put (cl := clX) (ty := .int) (v := .int x) hM.1.1 hM.1.2.1 hM.1.2.2.2.2 hin (tyX ci) hty hnm hM.1.2.2.2.1 hM.2.2.1 hW.1 hW.2.1 hW.2.2 k e0 hcl j hj (hM.1.2.2.2.2 _ hw) (fun _ q => q) hf (by rw [← hr]; exact hty j hj) rfl rfl (by simp; exact hj) hd (fun H1 locs1 hP hD hS => ?_)
  rw [e1] at hP hD
  exact kk p e R s m args below meth c D dA A Q ad H1 locs1 cells slots ls hM ⟨hP, hD, hS⟩ hc hs hl ret
theorem X_putIF {x : Int32} (K : CLok ci C T N) (hk : k < h.1.1) (ho : h.1.2 k = (ci, N)) (hj : j < N) (hr : tyX ci j = .int) (hf : (T j).2.2.2 = true) (hi : M.1.name = "<init>") (hdc : (T j).1 = M.1.cls) (hw : Cond.fieldLink M.1.cls index (T j).1 (T j).2.1 (T j).2.2.1 ∈ TBL) (hd : decode M.2.1 pc = .ok (.putfield index, 3)) (kk : X g M d nc ns post (pc + 3) L st (wI h k j x)) : X g M d nc ns post pc L (.int x :: .ref k :: st) h := by
  intro p e R s m args below meth c D dA A Q ad H locs cells slots ls hM hW hc hs hl ret
  obtain ⟨hcl, hc10, hin, hty, hnm⟩ := K
  have hr' : isR ci j = false := by unfold isR; rw [hr]; rfl
  have e0 : (wl dA ad h)[k]? = some (ad k, .inr (ci, (List.range N).map (fun j => fvE ad h k ci j))) := by rw [wl_get hk, cE_obj ho hc10]
  have e1 : (wl dA ad h).set k (ad k, .inr (ci, ((List.range N).map (fun j => fvE ad h k ci j)).set j (.int x))) = wl dA ad (wI h k j x) := wl_wI (by rw [fs_wI hr', cE_obj (h := wI h k j x) ho hc10])
  refine va_putF (cl := clX) (ty := .int) (v := .int x) hM.1.1 hM.1.2.1 hM.1.2.2.2.2 hin (tyX ci) hty hnm hM.1.2.2.2.1 hM.2.2.1 hW.1 hW.2.1 hW.2.2 k e0 hcl j hj (hM.1.2.2.2.2 _ hw) (fun _ q => q) hf (hM.2.2.2.1 hi) hdc (by rw [← hr]; exact hty j hj) rfl rfl (by simp; exact hj) hd (fun H1 locs1 hP hD hS => ?_)
  rw [e1] at hP hD
  exact kk p e R s m args below meth c D dA A Q ad H1 locs1 cells slots ls hM ⟨hP, hD, hS⟩ hc hs hl ret
theorem X_putR {q : Nat} (K : CLok ci C T N) (hk : k < h.1.1) (ho : h.1.2 k = (ci, N)) (hj : j < N) (hr : isR ci j = true) (hn : ∀ a, narrow (tyX ci j) (.ref a) = .ref a ∧ fits (tyX ci j) (.ref a) = true) (hf : (T j).2.2.2 = false) (hw : Cond.fieldLink M.1.cls index (T j).1 (T j).2.1 (T j).2.2.1 ∈ TBL) (hd : decode M.2.1 pc = .ok (.putfield index, 3)) (kk : X g M d nc ns post (pc + 3) L st (wR h k j (some q))) : X g M d nc ns post pc L (.ref q :: .ref k :: st) h := by
  intro p e R s m args below meth c D dA A Q ad H locs cells slots ls hM hW hc hs hl ret
  obtain ⟨hcl, hc10, hin, hty, hnm⟩ := K
  have e0 : (wl dA ad h)[k]? = some (ad k, .inr (ci, (List.range N).map (fun j => fvE ad h k ci j))) := by rw [wl_get hk, cE_obj ho hc10]
  have e1 : (wl dA ad h).set k (ad k, .inr (ci, ((List.range N).map (fun j => fvE ad h k ci j)).set j (.ref (ad q)))) = wl dA ad (wR h k j (some q)) := wl_wR (by rw [fs_wR hr, cE_obj (h := wR h k j (some q)) ho hc10])
  refine va_put (cl := clX) (ty := tyX ci j) (v := .ref (ad q)) hM.1.1 hM.1.2.1 hM.1.2.2.2.2 hin (tyX ci) hty hnm hM.1.2.2.2.1 hM.2.2.1 hW.1 hW.2.1 hW.2.2 k e0 hcl j hj (hM.1.2.2.2.2 _ hw) (fun _ q => q) hf (hty j hj) (hn _).1 (hn _).2 (by simp; exact hj) hd (fun H1 locs1 hP hD hS => ?_)
  rw [e1] at hP hD
  exact kk p e R s m args below meth c D dA A Q ad H1 locs1 cells slots ls hM ⟨hP, hD, hS⟩ hc hs hl ret
theorem X_putRF {q : Nat} (K : CLok ci C T N) (hk : k < h.1.1) (ho : h.1.2 k = (ci, N)) (hj : j < N) (hr : isR ci j = true) (hn : ∀ a, narrow (tyX ci j) (.ref a) = .ref a ∧ fits (tyX ci j) (.ref a) = true) (hf : (T j).2.2.2 = true) (hi : M.1.name = "<init>") (hdc : (T j).1 = M.1.cls) (hw : Cond.fieldLink M.1.cls index (T j).1 (T j).2.1 (T j).2.2.1 ∈ TBL) (hd : decode M.2.1 pc = .ok (.putfield index, 3)) (kk : X g M d nc ns post (pc + 3) L st (wR h k j (some q))) : X g M d nc ns post pc L (.ref q :: .ref k :: st) h := by
  intro p e R s m args below meth c D dA A Q ad H locs cells slots ls hM hW hc hs hl ret
  obtain ⟨hcl, hc10, hin, hty, hnm⟩ := K
  have e0 : (wl dA ad h)[k]? = some (ad k, .inr (ci, (List.range N).map (fun j => fvE ad h k ci j))) := by rw [wl_get hk, cE_obj ho hc10]
  have e1 : (wl dA ad h).set k (ad k, .inr (ci, ((List.range N).map (fun j => fvE ad h k ci j)).set j (.ref (ad q)))) = wl dA ad (wR h k j (some q)) := wl_wR (by rw [fs_wR hr, cE_obj (h := wR h k j (some q)) ho hc10])
  refine va_putF (cl := clX) (ty := tyX ci j) (v := .ref (ad q)) hM.1.1 hM.1.2.1 hM.1.2.2.2.2 hin (tyX ci) hty hnm hM.1.2.2.2.1 hM.2.2.1 hW.1 hW.2.1 hW.2.2 k e0 hcl j hj (hM.1.2.2.2.2 _ hw) (fun _ q => q) hf (hM.2.2.2.1 hi) hdc (hty j hj) (hn _).1 (hn _).2 (by simp; exact hj) hd (fun H1 locs1 hP hD hS => ?_)
  rw [e1] at hP hD
  exact kk p e R s m args below meth c D dA A Q ad H1 locs1 cells slots ls hM ⟨hP, hD, hS⟩ hc hs hl ret
theorem u2_upd {α : Type} (f : Nat → Nat → α) (x : α) : u2 f k j x k = fun b => if b = j then x else f k b := by
  funext b
  simp [u2]
theorem upd_eq (f : Nat → Int32) (j : Nat) (x : Int32) : upd f j x = fun b => if b = j then x else f b := rfl
theorem updL_eq (f : Nat → Int64) (j : Nat) (x : Int64) : vp_updL f j x = fun b => if b = j then x else f b := rfl
theorem X_iald {i : Int32} (hk : k < h.1.1) (ho : h.1.2 k = (10, N)) (hi : vp_in i N) (hd : decode M.2.1 pc = .ok (.iaload, 1)) (kk : X g M d nc ns post (pc + 1) L (.int (h.2.1 k i.toNatClampNeg) :: st) h) : X g M d nc ns post pc L (.int i :: .ref k :: st) h := by
  intro p e R s m args below meth c D dA A Q ad H locs cells slots ls hM hW hc hs hl ret
  exact va_iald (cl := clX) hM.1.1 hM.1.2.1 hM.2.2.1 hW.1 k 0 (by rw [wl_get hk, cE_arr ho (by decide) (by decide) (by decide)]) rfl hi hd (kk p e R s m args below meth c D dA A Q ad H locs cells slots ls hM hW hc hs hl ret)
theorem X_bald {i : Int32} (hk : k < h.1.1) (ho : h.1.2 k = (11, N)) (hi : vp_in i N) (hd : decode M.2.1 pc = .ok (.baload, 1)) (kk : X g M d nc ns post (pc + 1) L (.int (h.2.1 k i.toNatClampNeg) :: st) h) : X g M d nc ns post pc L (.int i :: .ref k :: st) h := by
  intro p e R s m args below meth c D dA A Q ad H locs cells slots ls hM hW hc hs hl ret
  exact va_bald (cl := clX) hM.1.1 hM.1.2.1 hM.2.2.1 hW.1 k 1 (by rw [wl_get hk, cE_arr ho (by decide) (by decide) (by decide)]) rfl hi hd (kk p e R s m args below meth c D dA A Q ad H locs cells slots ls hM hW hc hs hl ret)
theorem X_zald {i : Int32} (hk : k < h.1.1) (ho : h.1.2 k = (12, N)) (hi : vp_in i N) (hd : decode M.2.1 pc = .ok (.baload, 1)) (kk : X g M d nc ns post (pc + 1) L (.int (h.2.1 k i.toNatClampNeg) :: st) h) : X g M d nc ns post pc L (.int i :: .ref k :: st) h := by
  intro p e R s m args below meth c D dA A Q ad H locs cells slots ls hM hW hc hs hl ret
  exact va_zald (cl := clX) hM.1.1 hM.1.2.1 hM.2.2.1 hW.1 k 2 (by rw [wl_get hk, cE_arr ho (by decide) (by decide) (by decide)]) rfl hi hd (kk p e R s m args below meth c D dA A Q ad H locs cells slots ls hM hW hc hs hl ret)
theorem X_lald {i : Int32} (hk : k < h.1.1) (ho : h.1.2 k = (13, N)) (hi : vp_in i N) (hd : decode M.2.1 pc = .ok (.laload, 1)) (kk : X g M d nc ns post (pc + 1) L (.long (h.2.2.1 k i.toNatClampNeg) :: st) h) : X g M d nc ns post pc L (.int i :: .ref k :: st) h := by
  intro p e R s m args below meth c D dA A Q ad H locs cells slots ls hM hW hc hs hl ret
  exact va_lald (cl := clX) hM.1.1 hM.1.2.1 hM.2.2.1 hW.1 k 3 (by rw [wl_get hk, cE_long ho]) rfl hi hd (kk p e R s m args below meth c D dA A Q ad H locs cells slots ls hM hW hc hs hl ret)
theorem X_aald {i : Int32} {q : Nat} (hk : k < h.1.1) (ho : h.1.2 k = (14, N)) (hi : vp_in i N) (hq : h.2.2.2 k i.toNatClampNeg = some q) (hd : decode M.2.1 pc = .ok (.aaload, 1)) (kk : X g M d nc ns post (pc + 1) L (.ref q :: st) h) : X g M d nc ns post pc L (.int i :: .ref k :: st) h := by
  intro p e R s m args below meth c D dA A Q ad H locs cells slots ls hM hW hc hs hl ret
  have hlt : i.toNatClampNeg < N := Nat.not_le.mp fun q => hi (Or.inr q)
  have he : (wl dA ad h)[k]? = some (ad k, .inl (dA 14, N, .inr (.inr (.inr (.inr (fun j => (h.2.2.2 k j).map ad)))))) := by rw [wl_get hk, cE_refs ho]
  have hty : (tyl dA)[4]? = some (dA 14, .array .int) := rfl
  refine W.aald (v := .ref (ad q)) (ty := .array .int) hM.1.1 hM.1.2.1 (hW.1 k _ he) ((hM.2.2.1.2 4 _ hty).1 N (fun j => va_rf ((h.2.2.2 k j).map ad))) rfl (fun q => by cases q) (by show ¬ (i < 0 ∨ (arrV _ _ _).slots.size ≤ _); rw [arrV_size]; exact hi) ?_ rfl rfl hd (kk p e R s m args below meth c D dA A Q ad H locs cells slots ls hM hW hc hs hl ret)
  show (arrV _ _ _).slots[_]? = _
  rw [arrV_read _ _ hlt]
  show some (va_rf ((h.2.2.2 k i.toNatClampNeg).map ad)) = _
  rw [hq]
  rfl
theorem X_iast {i x : Int32} (hk : k < h.1.1) (ho : h.1.2 k = (10, N)) (hi : vp_in i N) (hd : decode M.2.1 pc = .ok (.iastore, 1)) (kk : X g M d nc ns post (pc + 1) L st (wI h k i.toNatClampNeg x)) : X g M d nc ns post pc L (.int x :: .int i :: .ref k :: st) h := by
  intro p e R s m args below meth c D dA A Q ad H locs cells slots ls hM hW hc hs hl ret
  refine va_iast (cl := clX) hM.1.1 hM.1.2.1 hM.2.2.1 hW.1 hW.2.1 hW.2.2 k 0 (by rw [wl_get hk, cE_arr ho (by decide) (by decide) (by decide)]) rfl hi hd (fun H1 locs1 hP hD hS => ?_)
  have e1 : ∀ e, e = cE dA ad (wI h k i.toNatClampNeg x) k → (wl dA ad h).set k (ad k, e) = wl dA ad (wI h k i.toNatClampNeg x) := fun e he => wl_wI he
  rw [e1 _ (by rw [cE_arr (h := wI h k i.toNatClampNeg x) ho (by decide) (by decide) (by decide)]; simp only [wI, u2_upd]; rfl)] at hP hD
  exact kk p e R s m args below meth c D dA A Q ad H1 locs1 cells slots ls hM ⟨hP, hD, hS⟩ hc hs hl ret
theorem X_bast {i x : Int32} (hk : k < h.1.1) (ho : h.1.2 k = (11, N)) (hi : vp_in i N) (hd : decode M.2.1 pc = .ok (.bastore, 1)) (kk : X g M d nc ns post (pc + 1) L st (wI h k i.toNatClampNeg (vp_nar .byte x))) : X g M d nc ns post pc L (.int x :: .int i :: .ref k :: st) h := by
  intro p e R s m args below meth c D dA A Q ad H locs cells slots ls hM hW hc hs hl ret
  refine va_bast (cl := clX) hM.1.1 hM.1.2.1 hM.2.2.1 hW.1 hW.2.1 hW.2.2 k 1 (by rw [wl_get hk, cE_arr ho (by decide) (by decide) (by decide)]) rfl hi hd (fun H1 locs1 hP hD hS => ?_)
  have e1 : ∀ e, e = cE dA ad (wI h k i.toNatClampNeg (vp_nar .byte x)) k → (wl dA ad h).set k (ad k, e) = wl dA ad (wI h k i.toNatClampNeg (vp_nar .byte x)) := fun e he => wl_wI he
  rw [e1 _ (by rw [cE_arr (h := wI h k i.toNatClampNeg (vp_nar .byte x)) ho (by decide) (by decide) (by decide)]; simp only [wI, u2_upd]; rfl)] at hP hD
  exact kk p e R s m args below meth c D dA A Q ad H1 locs1 cells slots ls hM ⟨hP, hD, hS⟩ hc hs hl ret
theorem X_zast {i x : Int32} (hk : k < h.1.1) (ho : h.1.2 k = (12, N)) (hi : vp_in i N) (hd : decode M.2.1 pc = .ok (.bastore, 1)) (kk : X g M d nc ns post (pc + 1) L st (wI h k i.toNatClampNeg (vp_nar .boolean x))) : X g M d nc ns post pc L (.int x :: .int i :: .ref k :: st) h := by
  intro p e R s m args below meth c D dA A Q ad H locs cells slots ls hM hW hc hs hl ret
  refine va_zast (cl := clX) hM.1.1 hM.1.2.1 hM.2.2.1 hW.1 hW.2.1 hW.2.2 k 2 (by rw [wl_get hk, cE_arr ho (by decide) (by decide) (by decide)]) rfl hi hd (fun H1 locs1 hP hD hS => ?_)
  have e1 : ∀ e, e = cE dA ad (wI h k i.toNatClampNeg (vp_nar .boolean x)) k → (wl dA ad h).set k (ad k, e) = wl dA ad (wI h k i.toNatClampNeg (vp_nar .boolean x)) := fun e he => wl_wI he
  rw [e1 _ (by rw [cE_arr (h := wI h k i.toNatClampNeg (vp_nar .boolean x)) ho (by decide) (by decide) (by decide)]; simp only [wI, u2_upd]; rfl)] at hP hD
  exact kk p e R s m args below meth c D dA A Q ad H1 locs1 cells slots ls hM ⟨hP, hD, hS⟩ hc hs hl ret
theorem X_last {i : Int32} {x : Int64} (hk : k < h.1.1) (ho : h.1.2 k = (13, N)) (hi : vp_in i N) (hd : decode M.2.1 pc = .ok (.lastore, 1)) (kk : X g M d nc ns post (pc + 1) L st (wJ h k i.toNatClampNeg x)) : X g M d nc ns post pc L (.long x :: .int i :: .ref k :: st) h := by
  intro p e R s m args below meth c D dA A Q ad H locs cells slots ls hM hW hc hs hl ret
  refine va_last (cl := clX) hM.1.1 hM.1.2.1 hM.2.2.1 hW.1 hW.2.1 hW.2.2 k 3 (by rw [wl_get hk, cE_long ho]) rfl hi hd (fun H1 locs1 hP hD hS => ?_)
  have e1 : ∀ e, e = cE dA ad (wJ h k i.toNatClampNeg x) k → (wl dA ad h).set k (ad k, e) = wl dA ad (wJ h k i.toNatClampNeg x) := fun e he => wl_wJ he
  rw [e1 _ (by rw [cE_long (h := wJ h k i.toNatClampNeg x) ho]; simp only [wJ, u2_upd]; rfl)] at hP hD
  exact kk p e R s m args below meth c D dA A Q ad H1 locs1 cells slots ls hM ⟨hP, hD, hS⟩ hc hs hl ret
/-- the script -/
theorem X_sld {i : Int32} (hi : vp_in i g.2.1) (hd : decode M.2.1 pc = .ok (.iaload, 1)) (kk : X g M d nc ns post (pc + 1) L (.int (g.2.2 i.toNatClampNeg) :: st) h) : X g M d nc ns post pc L (.int i :: .ref (SB + 2) :: st) h := by
  intro p e R s m args below meth c D dA A Q ad H locs cells slots ls hM hW hc hs hl ret
  obtain ⟨e1, e2, e3, ez, e4, e5, e6⟩ := hM.2.2.2.2.2.2
  exact va_sld hM.1.1 hM.1.2.1 e4 e5 e6 hW.2.2 hi hd (kk p e R s m args below meth c D dA A Q ad H locs cells slots ls hM hW hc hs hl ret)
theorem X_slen (hd : decode M.2.1 pc = .ok (.arraylength, 1)) (kk : X g M d nc ns post (pc + 1) L (.int (Int32.ofNat g.2.1) :: st) h) : X g M d nc ns post pc L (.ref (SB + 2) :: st) h := by
  intro p e R s m args below meth c D dA A Q ad H locs cells slots ls hM hW hc hs hl ret
  obtain ⟨e1, e2, e3, ez, e4, e5, e6⟩ := hM.2.2.2.2.2.2
  exact va_slen hM.1.1 hM.1.2.1 e4 e5 e6 hW.2.2 hd (kk p e R s m args below meth c D dA A Q ad H locs cells slots ls hM hW hc hs hl ret)
theorem X_max {x y : Int32} (hd1 : 1 ≤ d) (hr : (st.map fun v => v.category).sum ≤ 8) (hw : Cond.methodLink M.1.cls index Lib.Math.max.name ∈ TBL) (hd : decode M.2.1 pc = .ok (.invokestatic index, 3)) (kk : X g M d nc ns post (pc + 3) L (.int (if x < y then y else x) :: st) h) : X g M d nc ns post pc L (.int y :: .int x :: st) h := by
  intro p e R s m args below meth c D dA A Q ad H locs cells slots ls hM hW hc hs hl ret
  have ht := hM.1.2.2.2.2
  obtain ⟨hf1, hf2⟩ := hM.2.2.2.2.1
  have hsum : ((st.map (tr ad)).map fun v => v.category).sum ≤ 8 := by
    rw [List.map_map]
    have : ((fun v : Value => v.category) ∘ tr ad) = fun v => v.category := funext (fun v => tr_cat ad v)
    rw [this]
    exact hr
  exact va_mmax hM.1.1 hM.1.2.1 (by rw [hM.1.2.2.1]; exact hl.1.symm) hM.1.2.2.2.1 (ht _ hw) (ht _ (by decide +kernel)) (ht _ (by decide +kernel)) (ht _ (by decide +kernel)) (by omega) (by omega) (by omega) (by omega) hd (kk p e R s m args below meth c D dA A Q ad H locs cells slots ls hM hW hc hs hl ret)
theorem X_min {x y : Int32} (hd1 : 1 ≤ d) (hr : (st.map fun v => v.category).sum ≤ 8) (hw : Cond.methodLink M.1.cls index Lib.Math.min.name ∈ TBL) (hd : decode M.2.1 pc = .ok (.invokestatic index, 3)) (kk : X g M d nc ns post (pc + 3) L (.int (if y < x then y else x) :: st) h) : X g M d nc ns post pc L (.int y :: .int x :: st) h := by
  intro p e R s m args below meth c D dA A Q ad H locs cells slots ls hM hW hc hs hl ret
  have ht := hM.1.2.2.2.2
  obtain ⟨hf1, hf2⟩ := hM.2.2.2.2.1
  have hsum : ((st.map (tr ad)).map fun v => v.category).sum ≤ 8 := by
    rw [List.map_map]
    have : ((fun v : Value => v.category) ∘ tr ad) = fun v => v.category := funext (fun v => tr_cat ad v)
    rw [this]
    exact hr
  exact va_mmin hM.1.1 hM.1.2.1 (by rw [hM.1.2.2.1]; exact hl.1.symm) hM.1.2.2.2.1 (ht _ hw) (ht _ (by decide +kernel)) (ht _ (by decide +kernel)) (ht _ (by decide +kernel)) (by omega) (by omega) (by omega) (by omega) hd (kk p e R s m args below meth c D dA A Q ad H locs cells slots ls hM hW hc hs hl ret)
end XH
