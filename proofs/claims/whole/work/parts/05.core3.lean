/-! ===== fields, arrays, making, calls, ends ===== -/
def FL (own : String) (idx ci k : Nat) : Prop := ci < 12 ∧ k < cN ci ∧ Cond.fieldLink own idx (cT ci k).1 (cT ci k).2.1 (cT ci k).2.2.1 ∈ tb
theorem Rh.obj {X : Cx} {w : Wd} {H : Heap} (h : Rh X w H) {a ci : Nat} (hc : ci < 12) (ha : wK w a = ci + 1) : ∃ (L : List Nat) (q0 : Nat), va_P X.2.1 cls (va_pl L (wG X.2.2.1 w)) H ∧ va_D (Fr X) (va_pl L (wG X.2.2.1 w)) ∧ (∀ a, wK w a ≠ 0 → a ≠ 0 ∧ a - 1 ∈ L) ∧ a - 1 ∈ L ∧ (va_pl L (wG X.2.2.1 w))[q0]? = some (a - 1, .inr (ci, fl w ci a)) := by
  obtain ⟨L, hP, hD, hL⟩ := h
  obtain ⟨h0, ha'⟩ := hL a (by omega)
  obtain ⟨k, hk⟩ := va_pl_get (X := []) (f := wG X.2.2.1 w) ha'
  rw [wG_s h0, wF_obj ha hc] at hk
  exact ⟨L, k, hP, hD, hL, ha', hk⟩
theorem Rh.arr {X : Cx} {w : Wd} {H : Heap} (h : Rh X w H) {a t : Nat} (ht : 13 ≤ t) (ha : wK w a = t) : ∃ (L : List Nat) (q0 : Nat), va_P X.2.1 cls (va_pl L (wG X.2.2.1 w)) H ∧ va_D (Fr X) (va_pl L (wG X.2.2.1 w)) ∧ (∀ a, wK w a ≠ 0 → a ≠ 0 ∧ a - 1 ∈ L) ∧ a - 1 ∈ L ∧ (va_pl L (wG X.2.2.1 w))[q0]? = some (a - 1, .inl (X.2.2.1 t, wL w a, ac w t a)) := by
  obtain ⟨L, hP, hD, hL⟩ := h
  obtain ⟨h0, ha'⟩ := hL a (by omega)
  obtain ⟨k, hk⟩ := va_pl_get (X := []) (f := wG X.2.2.1 w) ha'
  rw [wG_s h0, wF_arr ha ht] at hk
  exact ⟨L, k, hP, hD, hL, ha', hk⟩
/-- a place of the pool gets another content -/
theorem Rh.set {X : Cx} {w w' : Wd} {H1 : Heap} {L : List Nat} {q0 a : Nat} {e e' : va_E} (h0 : a ≠ 0) (hD : va_D (Fr X) (va_pl L (wG X.2.2.1 w))) (hL : ∀ a, wK w a ≠ 0 → a ≠ 0 ∧ a - 1 ∈ L) (ha : a - 1 ∈ L) (he : wF X.2.2.1 w a = e) (hk : (va_pl L (wG X.2.2.1 w))[q0]? = some (a - 1, e))
    (hP1 : va_P X.2.1 cls ((va_pl L (wG X.2.2.1 w)).set q0 (a - 1, e')) H1) (hD1 : va_D (Fr X) ((va_pl L (wG X.2.2.1 w)).set q0 (a - 1, e'))) (hK : ∀ b, wK w' b = wK w b) (ho : ∀ b, b ≠ a → eqAt w w' b) (he' : wF X.2.2.1 w' a = e') : Rh X w' H1 := by
  subst he
  rw [← wG_s h0] at hk
  have hs : (va_pl L (wG X.2.2.1 w)).set q0 (a - 1, e') = va_pl L (wG X.2.2.1 w') := by
    have h1 := va_pl_set (X := []) (e := e') hD ha hk
    have h2 := va_pl_congr (L := L) (wG_up (cy := X.2.2.1) (w := w) (w' := w') (a := a - 1) (e := e') (fun b hb => (ho (b + 1) (by omega)).F) ((wG_s h0).trans he'))
    exact h1.trans h2
  rw [hs] at hP1 hD1
  exact ⟨L, hP1, hD1, fun b hb => hL b (by rw [← hK b]; exact hb)⟩
theorem Rh.push {X : Cx} {w w' : Wd} {H1 : Heap} {L : List Nat} {q : Nat} {e : va_E} (hL : ∀ a, wK w a ≠ 0 → a ≠ 0 ∧ a - 1 ∈ L) (hP1 : va_P X.2.1 cls (va_pl L (wG X.2.2.1 w) ++ [(q, e)]) H1) (hD1 : va_D (Fr X) (va_pl L (wG X.2.2.1 w) ++ [(q, e)])) (ho : ∀ b, b ≠ q + 1 → eqAt w w' b) (he : wF X.2.2.1 w' (q + 1) = e) : Rh X w' H1 ∧ wK w (q + 1) = 0 := by
  have hq : q ∉ L := va_pl_fresh2 (X := []) hD1
  have hs : va_pl L (wG X.2.2.1 w) ++ [(q, e)] = va_pl (L ++ [q]) (wG X.2.2.1 w') := by
    rw [va_pl_push hq]
    exact va_pl_congr (wG_up (fun b hb => (ho (b + 1) (by omega)).F) he)
  rw [hs] at hP1 hD1
  refine ⟨⟨L ++ [q], hP1, hD1, fun b hb => ?_⟩, ?_⟩
  · by_cases h : b = q + 1
    · subst h; exact ⟨by omega, by simp⟩
    · rw [(ho b h).1] at hb
      exact ⟨(hL b hb).1, List.mem_append_left _ (hL b hb).2⟩
  · by_cases h : wK w (q + 1) = 0
    · exact h
    · exact absurd (hL _ h).2 (by simpa using hq)
theorem vaD_last {A : Nat → Prop} {ws : va_W} {x : Nat × va_E} (h : va_D A (ws ++ [x])) : A x.1 := h.2 ws.length x (by simp)
theorem fv_I {w : Wd} {ci k a : Nat} (h : fk (cY ci k) = 0) : fv w ci k a = .int (wI w ci k a) := by simp [fv, h]
theorem fv_J {w : Wd} {ci k a : Nat} (h : fk (cY ci k) = 1) : fv w ci k a = .long (wJ w ci k a) := by simp [fv, h]
theorem fv_R {w : Wd} {ci k a : Nat} (h : fk (cY ci k) = 2) : fv w ci k a = rn (wR w ci k a) := by simp [fv, h]
section E1
variable {X : Cx} {M : Me} {V : Vw} {rc rs pc : Nat} {lv : List (Nat × Av)} {st : List Av} {w : Wd}
theorem e_get {idx ci k a : Nat} {v : Av} (hd : decode M.2.1 pc = .ok (.getfield idx, 3)) (hf : FL M.1.cls idx ci k) (ha : wK w a = ci + 1) (hv : fv w ci k a = tv v) (kk : EJ X M V rc rs (pc + 3) lv (v :: st) w) : EJ X M V rc rs pc lv (vR a :: st) w := by
  intro p e s m args below meth c H locs cells slots ls hA hV hR hS hl hc hs hcr hsr
  obtain ⟨L, q0, hP, hD, hL, haL, hk⟩ := hR.obj hf.1 ha
  have hne : a ≠ 0 := hR.ne hA.2.2.2.2.2.2.2.2.2 (by omega)
  have e1 : tv (vR a) = .ref (a - 1) := rn_ne hne
  have h2 := kk p e s m args below meth c H locs cells slots ls hA hV hR hS hl hc hs hcr hsr
  rw [List.map_cons] at h2 ⊢
  rw [e1]
  rw [← hv] at h2
  exact va_get hA.1 hA.2.1 hA.2.2.2.2.2.1 (cls_in ci hf.1) hA.2.2.2.2.1 hA.2.2.2.2.2.2.1.1 hP q0 hk (cls_get ci hf.1) k hf.2.1 (hA.2.2.2.2.2.1 _ hf.2.2) (fun _ h => h) (fl_get hf.2.1) hd h2
theorem e_getI {idx ci k a : Nat} (hd : decode M.2.1 pc = .ok (.getfield idx, 3)) (hf : FL M.1.cls idx ci k) (ht : fk (cY ci k) = 0) (ha : wK w a = ci + 1) (kk : EJ X M V rc rs (pc + 3) lv (vI (wI w ci k a) :: st) w) : EJ X M V rc rs pc lv (vR a :: st) w := e_get hd hf ha (fv_I ht) kk
theorem e_getJ {idx ci k a : Nat} (hd : decode M.2.1 pc = .ok (.getfield idx, 3)) (hf : FL M.1.cls idx ci k) (ht : fk (cY ci k) = 1) (ha : wK w a = ci + 1) (kk : EJ X M V rc rs (pc + 3) lv (vJ (wJ w ci k a) :: st) w) : EJ X M V rc rs pc lv (vR a :: st) w := e_get hd hf ha (fv_J ht) kk
theorem e_getR {idx ci k a : Nat} (hd : decode M.2.1 pc = .ok (.getfield idx, 3)) (hf : FL M.1.cls idx ci k) (ht : fk (cY ci k) = 2) (ha : wK w a = ci + 1) (kk : EJ X M V rc rs (pc + 3) lv (vR (wR w ci k a) :: st) w) : EJ X M V rc rs pc lv (vR a :: st) w := e_get hd hf ha (fv_R ht) kk
theorem e_put {idx ci k a : Nat} {v : Av} {w' : Wd} (hd : decode M.2.1 pc = .ok (.putfield idx, 3)) (hf : FL M.1.cls idx ci k) (hfin : (cT ci k).2.2.2 = false ∨ ((cT ci k).2.2.2 = true ∧ M.1.name = "<init>" ∧ (cT ci k).1 = M.1.cls)) (ha : wK w a = ci + 1) (hn : narrow (cY ci k) (tv v) = tv v) (hft : fits (cY ci k) (tv v) = true)
    (hK : ∀ b, wK w' b = wK w b) (ho : ∀ b, b ≠ a → eqAt w w' b) (hv : fv w' ci k a = tv v) (hj : ∀ j, j ≠ k → fv w' ci j a = fv w ci j a) (kk : EJ X M V rc rs (pc + 3) lv st w') : EJ X M V rc rs pc lv (v :: vR a :: st) w := by
  intro p e s m args below meth c H locs cells slots ls hA hV hR hS hl hc hs hcr hsr
  obtain ⟨L, q0, hP, hD, hL, haL, hk⟩ := hR.obj hf.1 ha
  have hne : a ≠ 0 := hR.ne hA.2.2.2.2.2.2.2.2.2 (by omega)
  have e1 : tv (vR a) = .ref (a - 1) := rn_ne hne
  rw [List.map_cons, List.map_cons, e1]
  have go : ∀ (H1 : Heap) (locs1 : List Loc), va_P X.2.1 cls ((va_pl L (wG X.2.2.1 w)).set q0 (a - 1, .inr (ci, (fl w ci a).set k (tv v)))) H1 → va_D (Fr X) ((va_pl L (wG X.2.2.1 w)).set q0 (a - 1, .inr (ci, (fl w ci a).set k (tv v)))) → va_S (Fr X) X.2.2.2 H1 locs1 → W p X.1 e V.1 s m args below meth c H1 locs1 cells slots (V.2.2.2.1 below args s) (F0 m (pc + 3) ls (st.map tv)) := by
    intro H1 locs1 hP1 hD1 hS1
    have hR1 : Rh X w' H1 := Rh.set hne hD hL haL (wF_obj ha hf.1) hk hP1 hD1 hK ho (by rw [wF_obj (by rw [hK a]; exact ha) hf.1, fl_set hv hj])
    exact kk p e s m args below meth c H1 locs1 cells slots ls hA hV hR1 hS1 hl hc hs hcr hsr
  rcases hfin with hfin | ⟨hfin, hnm, hdecl⟩
  · exact va_put hA.1 hA.2.1 hA.2.2.2.2.2.1 (cls_in ci hf.1) (cY ci) (cls_ty ci hf.1) (cls_nm ci hf.1) hA.2.2.2.2.1 hA.2.2.2.2.2.2.1.1 hP hD hS q0 hk (cls_get ci hf.1) k hf.2.1 (hA.2.2.2.2.2.1 _ hf.2.2) (fun _ h => h) hfin (cls_ty ci hf.1 k hf.2.1) hn hft (by rw [fl_len]; exact hf.2.1) hd go
  · exact va_putF hA.1 hA.2.1 hA.2.2.2.2.2.1 (cls_in ci hf.1) (cY ci) (cls_ty ci hf.1) (cls_nm ci hf.1) hA.2.2.2.2.1 hA.2.2.2.2.2.2.1.1 hP hD hS q0 hk (cls_get ci hf.1) k hf.2.1 (hA.2.2.2.2.2.1 _ hf.2.2) (fun _ h => h) hfin ((hA.2.2.2.2.2.2.2.2.1 hnm).trans hnm) hdecl (cls_ty ci hf.1 k hf.2.1) hn hft (by rw [fl_len]; exact hf.2.1) hd go
theorem e_putI {idx ci k a : Nat} {x : Int32} (hd : decode M.2.1 pc = .ok (.putfield idx, 3)) (hf : FL M.1.cls idx ci k) (hfin : (cT ci k).2.2.2 = false ∨ ((cT ci k).2.2.2 = true ∧ M.1.name = "<init>" ∧ (cT ci k).1 = M.1.cls)) (ht : cY ci k = .int) (ha : wK w a = ci + 1) (kk : EJ X M V rc rs (pc + 3) lv st (sI w ci k a x)) : EJ X M V rc rs pc lv (vI x :: vR a :: st) w := by
  refine e_put (w' := sI w ci k a x) hd hf hfin ha (by rw [ht]; rfl) (by rw [ht]; rfl) (fun _ => rfl) (fun b hb => eqAt_sI hb) ?_ (fun j hj => ?_) kk
  · rw [fv_I (by rw [ht]; rfl)]
    simp [wI, sI, u3, tv]
  · unfold fv
    simp [wI, wJ, wR, sI, u3, hj]
theorem e_putZ {idx ci k a : Nat} {x : Int32} (hd : decode M.2.1 pc = .ok (.putfield idx, 3)) (hf : FL M.1.cls idx ci k) (hfin : (cT ci k).2.2.2 = false ∨ ((cT ci k).2.2.2 = true ∧ M.1.name = "<init>" ∧ (cT ci k).1 = M.1.cls)) (ht : cY ci k = .boolean) (ha : wK w a = ci + 1) (hx : x = 0 ∨ x = 1) (kk : EJ X M V rc rs (pc + 3) lv st (sI w ci k a x)) : EJ X M V rc rs pc lv (vI x :: vR a :: st) w := by
  refine e_put (w' := sI w ci k a x) hd hf hfin ha (by rw [ht]; rcases hx with rfl | rfl <;> rfl) (by rw [ht]; rcases hx with rfl | rfl <;> rfl) (fun _ => rfl) (fun b hb => eqAt_sI hb) ?_ (fun j hj => ?_) kk
  · rw [fv_I (by rw [ht]; rfl)]
    simp [wI, sI, u3, tv]
  · unfold fv
    simp [wI, wJ, wR, sI, u3, hj]
theorem e_putJ {idx ci k a : Nat} {x : Int64} (hd : decode M.2.1 pc = .ok (.putfield idx, 3)) (hf : FL M.1.cls idx ci k) (hfin : (cT ci k).2.2.2 = false ∨ ((cT ci k).2.2.2 = true ∧ M.1.name = "<init>" ∧ (cT ci k).1 = M.1.cls)) (ht : cY ci k = .long) (ha : wK w a = ci + 1) (kk : EJ X M V rc rs (pc + 3) lv st (sJ w ci k a x)) : EJ X M V rc rs pc lv (vJ x :: vR a :: st) w := by
  refine e_put (w' := sJ w ci k a x) hd hf hfin ha (by rw [ht]; rfl) (by rw [ht]; rfl) (fun _ => rfl) (fun b hb => eqAt_sJ hb) ?_ (fun j hj => ?_) kk
  · rw [fv_J (by rw [ht]; rfl)]
    simp [wJ, sJ, u3, tv]
  · unfold fv
    simp [wI, wJ, wR, sJ, u3, hj]
theorem nf_R {t : FieldType} (h : fk t = 2) (a : Nat) : narrow t (rn a) = rn a ∧ fits t (rn a) = true := by
  by_cases ha : a = 0
  · subst ha
    cases t <;> first | exact ⟨rfl, rfl⟩ | cases h
  · rw [rn_ne ha]
    cases t <;> first | exact ⟨rfl, rfl⟩ | cases h
theorem e_putR {idx ci k a : Nat} {x : Nat} (hd : decode M.2.1 pc = .ok (.putfield idx, 3)) (hf : FL M.1.cls idx ci k) (hfin : (cT ci k).2.2.2 = false ∨ ((cT ci k).2.2.2 = true ∧ M.1.name = "<init>" ∧ (cT ci k).1 = M.1.cls)) (ht : fk (cY ci k) = 2) (ha : wK w a = ci + 1) (kk : EJ X M V rc rs (pc + 3) lv st (sR w ci k a x)) : EJ X M V rc rs pc lv (vR x :: vR a :: st) w := by
  refine e_put (w' := sR w ci k a x) hd hf hfin ha (nf_R ht x).1 (nf_R ht x).2 (fun _ => rfl) (fun b hb => eqAt_sR hb) ?_ (fun j hj => ?_) kk
  · rw [fv_R ht]
    simp [wR, sR, u3, tv]
  · unfold fv
    simp [wI, wJ, wR, sR, u3, hj]
theorem e_alen {a t : Nat} (hd : decode M.2.1 pc = .ok (.arraylength, 1)) (ht1 : 13 ≤ t) (ht2 : t < 19) (ha : wK w a = t) (kk : EJ X M V rc rs (pc + 1) lv (vI (Int32.ofNat (wL w a)) :: st) w) : EJ X M V rc rs pc lv (vR a :: st) w := by
  intro p e s m args below meth c H locs cells slots ls hA hV hR hS hl hc hs hcr hsr
  obtain ⟨L, q0, hP, hD, hL, haL, hk⟩ := hR.arr ht1 ha
  have hne : a ≠ 0 := hR.ne hA.2.2.2.2.2.2.2.2.2 (by omega)
  have e1 : tv (vR a) = .ref (a - 1) := rn_ne hne
  rw [List.map_cons, e1]
  exact va_alen hA.1 hA.2.1 hA.2.2.2.2.2.2.1.1 hP q0 (t - 13) hk (tysX_get X t ht1 ht2) rfl hd (kk p e s m args below meth c H locs cells slots ls hA hV hR hS hl hc hs hcr hsr)

theorem e_iald {a : Nat} {i : Int32} (hd : decode M.2.1 pc = .ok (.iaload, 1)) (ha : wK w a = 13) (hi : vp_in i (wL w a)) (kk : EJ X M V rc rs (pc + 1) lv (vI (xI w a i.toNatClampNeg) :: st) w) : EJ X M V rc rs pc lv (vI i :: vR a :: st) w := by
  intro p e s m args below meth c H locs cells slots ls hA hV hR hS hl hc hs hcr hsr
  obtain ⟨L, q0, hP, hD, hL, haL, hk⟩ := hR.arr (by omega) ha
  have hne : a ≠ 0 := hR.ne hA.2.2.2.2.2.2.2.2.2 (by omega)
  have e1 : tv (vR a) = .ref (a - 1) := rn_ne hne
  rw [List.map_cons, List.map_cons, e1]
  exact va_iald hA.1 hA.2.1 hA.2.2.2.2.2.2.1.1 hP q0 (13 - 13) hk (tysX_get X 13 (by omega) (by omega)) hi hd (kk p e s m args below meth c H locs cells slots ls hA hV hR hS hl hc hs hcr hsr)
theorem e_zald {a : Nat} {i : Int32} (hd : decode M.2.1 pc = .ok (.baload, 1)) (ha : wK w a = 15) (hi : vp_in i (wL w a)) (kk : EJ X M V rc rs (pc + 1) lv (vI (xI w a i.toNatClampNeg) :: st) w) : EJ X M V rc rs pc lv (vI i :: vR a :: st) w := by
  intro p e s m args below meth c H locs cells slots ls hA hV hR hS hl hc hs hcr hsr
  obtain ⟨L, q0, hP, hD, hL, haL, hk⟩ := hR.arr (by omega) ha
  have hne : a ≠ 0 := hR.ne hA.2.2.2.2.2.2.2.2.2 (by omega)
  have e1 : tv (vR a) = .ref (a - 1) := rn_ne hne
  rw [List.map_cons, List.map_cons, e1]
  exact va_zald hA.1 hA.2.1 hA.2.2.2.2.2.2.1.1 hP q0 (15 - 13) hk (tysX_get X 15 (by omega) (by omega)) hi hd (kk p e s m args below meth c H locs cells slots ls hA hV hR hS hl hc hs hcr hsr)
theorem e_lald {a : Nat} {i : Int32} (hd : decode M.2.1 pc = .ok (.laload, 1)) (ha : wK w a = 14) (hi : vp_in i (wL w a)) (kk : EJ X M V rc rs (pc + 1) lv (vJ (xJ w a i.toNatClampNeg) :: st) w) : EJ X M V rc rs pc lv (vI i :: vR a :: st) w := by
  intro p e s m args below meth c H locs cells slots ls hA hV hR hS hl hc hs hcr hsr
  obtain ⟨L, q0, hP, hD, hL, haL, hk⟩ := hR.arr (by omega) ha
  have hne : a ≠ 0 := hR.ne hA.2.2.2.2.2.2.2.2.2 (by omega)
  have e1 : tv (vR a) = .ref (a - 1) := rn_ne hne
  rw [List.map_cons, List.map_cons, e1]
  exact va_lald hA.1 hA.2.1 hA.2.2.2.2.2.2.1.1 hP q0 (14 - 13) hk (tysX_get X 14 (by omega) (by omega)) hi hd (kk p e s m args below meth c H locs cells slots ls hA hV hR hS hl hc hs hcr hsr)
theorem e_aald {a t : Nat} {i : Int32} (hd : decode M.2.1 pc = .ok (.aaload, 1)) (ht1 : 16 ≤ t) (ht2 : t < 19) (ha : wK w a = t) (hi : vp_in i (wL w a)) (kk : EJ X M V rc rs (pc + 1) lv (vR (xR w a i.toNatClampNeg) :: st) w) : EJ X M V rc rs pc lv (vI i :: vR a :: st) w := by
  intro p e s m args below meth c H locs cells slots ls hA hV hR hS hl hc hs hcr hsr
  obtain ⟨L, q0, hP, hD, hL, haL, hk⟩ := hR.arr (by omega) ha
  have hne : a ≠ 0 := hR.ne hA.2.2.2.2.2.2.2.2.2 (by omega)
  have e1 : tv (vR a) = .ref (a - 1) := rn_ne hne
  rw [List.map_cons, List.map_cons, e1]
  have hac : ac w t a = .inr (.inr (.inr (.inr (fun i => nz (xR w a i))))) := by unfold ac; rw [if_neg (by omega), if_neg (by omega)]
  rw [hac] at hk
  have htt := tysX_get X t (by omega) ht2
  have h2 := kk p e s m args below meth c H locs cells slots ls hA hV hR hS hl hc hs hcr hsr
  match t, ht1, ht2, htt, hk with
  | 16, _, _, htt, hk => exact va_aldq hA.1 hA.2.1 hA.2.2.2.2.2.2.1.1 hP q0 3 hk htt hi hd h2
  | 17, _, _, htt, hk => exact va_aldq hA.1 hA.2.1 hA.2.2.2.2.2.2.1.1 hP q0 4 hk htt hi hd h2
  | 18, _, _, htt, hk => exact va_aldq hA.1 hA.2.1 hA.2.2.2.2.2.2.1.1 hP q0 5 hk htt hi hd h2
  | n + 19, _, h, _, _ => exact absurd h (by omega)
theorem e_iast {a : Nat} {i : Int32} {x : Int32} (hd : decode M.2.1 pc = .ok (.iastore, 1)) (ha : wK w a = 13) (hi : vp_in i (wL w a)) (kk : EJ X M V rc rs (pc + 1) lv st (yI w a i.toNatClampNeg x)) : EJ X M V rc rs pc lv (vI x :: vI i :: vR a :: st) w := by
  intro p e s m args below meth c H locs cells slots ls hA hV hR hS hl hc hs hcr hsr
  obtain ⟨L, q0, hP, hD, hL, haL, hk⟩ := hR.arr (by omega) ha
  have hne : a ≠ 0 := hR.ne hA.2.2.2.2.2.2.2.2.2 (by omega)
  have e1 : tv (vR a) = .ref (a - 1) := rn_ne hne
  rw [List.map_cons, List.map_cons, List.map_cons, e1]
  refine va_iast hA.1 hA.2.1 hA.2.2.2.2.2.2.1.1 hP hD hS q0 (13 - 13) hk (tysX_get X 13 (by omega) (by omega)) hi hd (fun H1 locs1 hP1 hD1 hS1 => ?_)
  have hR1 : Rh X (yI w a i.toNatClampNeg x) H1 := by
    refine Rh.set hne hD hL haL (wF_arr ha (by omega)) hk hP1 hD1 (fun _ => rfl) (fun b hb => eqAt_yI hb) ?_
    rw [wF_arr (show wK (yI w a i.toNatClampNeg x) a = 13 from ha) (by omega)]
    have hx : xI (yI w a i.toNatClampNeg x) a = upd (xI w a) i.toNatClampNeg x := by
      funext j
      by_cases hj : j = i.toNatClampNeg <;> simp [xI, yI, u2, upd, hj]
    show Sum.inl (_, _, ac (yI w a i.toNatClampNeg x) 13 a) = _
    unfold ac
    simp [hx]
    rfl
  exact kk p e s m args below meth c H1 locs1 cells slots ls hA hV hR1 hS1 hl hc hs hcr hsr
theorem e_zast {a : Nat} {i : Int32} {x : Int32} (hd : decode M.2.1 pc = .ok (.bastore, 1)) (ha : wK w a = 15) (hi : vp_in i (wL w a)) (kk : EJ X M V rc rs (pc + 1) lv st (yI w a i.toNatClampNeg (vp_nar .boolean x))) : EJ X M V rc rs pc lv (vI x :: vI i :: vR a :: st) w := by
  intro p e s m args below meth c H locs cells slots ls hA hV hR hS hl hc hs hcr hsr
  obtain ⟨L, q0, hP, hD, hL, haL, hk⟩ := hR.arr (by omega) ha
  have hne : a ≠ 0 := hR.ne hA.2.2.2.2.2.2.2.2.2 (by omega)
  have e1 : tv (vR a) = .ref (a - 1) := rn_ne hne
  rw [List.map_cons, List.map_cons, List.map_cons, e1]
  refine va_zast hA.1 hA.2.1 hA.2.2.2.2.2.2.1.1 hP hD hS q0 (15 - 13) hk (tysX_get X 15 (by omega) (by omega)) hi hd (fun H1 locs1 hP1 hD1 hS1 => ?_)
  have hR1 : Rh X (yI w a i.toNatClampNeg (vp_nar .boolean x)) H1 := by
    refine Rh.set hne hD hL haL (wF_arr ha (by omega)) hk hP1 hD1 (fun _ => rfl) (fun b hb => eqAt_yI hb) ?_
    rw [wF_arr (show wK (yI w a i.toNatClampNeg (vp_nar .boolean x)) a = 15 from ha) (by omega)]
    have hx : xI (yI w a i.toNatClampNeg (vp_nar .boolean x)) a = upd (xI w a) i.toNatClampNeg (vp_nar .boolean x) := by
      funext j
      by_cases hj : j = i.toNatClampNeg <;> simp [xI, yI, u2, upd, hj]
    show Sum.inl (_, _, ac (yI w a i.toNatClampNeg (vp_nar .boolean x)) 15 a) = _
    unfold ac
    simp [hx]
    rfl
  exact kk p e s m args below meth c H1 locs1 cells slots ls hA hV hR1 hS1 hl hc hs hcr hsr
theorem e_last {a : Nat} {i : Int32} {x : Int64} (hd : decode M.2.1 pc = .ok (.lastore, 1)) (ha : wK w a = 14) (hi : vp_in i (wL w a)) (kk : EJ X M V rc rs (pc + 1) lv st (yJ w a i.toNatClampNeg x)) : EJ X M V rc rs pc lv (vJ x :: vI i :: vR a :: st) w := by
  intro p e s m args below meth c H locs cells slots ls hA hV hR hS hl hc hs hcr hsr
  obtain ⟨L, q0, hP, hD, hL, haL, hk⟩ := hR.arr (by omega) ha
  have hne : a ≠ 0 := hR.ne hA.2.2.2.2.2.2.2.2.2 (by omega)
  have e1 : tv (vR a) = .ref (a - 1) := rn_ne hne
  rw [List.map_cons, List.map_cons, List.map_cons, e1]
  refine va_last hA.1 hA.2.1 hA.2.2.2.2.2.2.1.1 hP hD hS q0 (14 - 13) hk (tysX_get X 14 (by omega) (by omega)) hi hd (fun H1 locs1 hP1 hD1 hS1 => ?_)
  have hR1 : Rh X (yJ w a i.toNatClampNeg x) H1 := by
    refine Rh.set hne hD hL haL (wF_arr ha (by omega)) hk hP1 hD1 (fun _ => rfl) (fun b hb => eqAt_yJ hb) ?_
    rw [wF_arr (show wK (yJ w a i.toNatClampNeg x) a = 14 from ha) (by omega)]
    have hx : xJ (yJ w a i.toNatClampNeg x) a = vp_updL (xJ w a) i.toNatClampNeg x := by
      funext j
      by_cases hj : j = i.toNatClampNeg <;> simp [xJ, yJ, u2, vp_updL, hj]
    show Sum.inl (_, _, ac (yJ w a i.toNatClampNeg x) 14 a) = _
    unfold ac
    simp [hx]
    rfl
  exact kk p e s m args below meth c H1 locs1 cells slots ls hA hV hR1 hS1 hl hc hs hcr hsr
theorem e_aast {a t v ci : Nat} {i : Int32} (hd : decode M.2.1 pc = .ok (.aastore, 1)) (ht : (t = 16 ∧ ci = 0) ∨ (t = 17 ∧ ci = 2) ∨ (t = 18 ∧ ci = 3)) (ha : wK w a = t) (hv : wK w v = ci + 1) (hi : vp_in i (wL w a)) (kk : EJ X M V rc rs (pc + 1) lv st (yR w a i.toNatClampNeg v)) : EJ X M V rc rs pc lv (vR v :: vI i :: vR a :: st) w := by
  intro p e s m args below meth c H locs cells slots ls hA hV hR hS hl hc hs hcr hsr
  obtain ⟨L, q0, hP, hD, hL, haL, hk⟩ := hR.arr (by omega) ha
  have hne : a ≠ 0 := hR.ne hA.2.2.2.2.2.2.2.2.2 (by omega)
  have hnv : v ≠ 0 := hR.ne hA.2.2.2.2.2.2.2.2.2 (by omega)
  have e1 : tv (vR a) = .ref (a - 1) := rn_ne hne
  have e2 : tv (vR v) = .ref (v - 1) := rn_ne hnv
  obtain ⟨qk, hkv⟩ := va_pl_get (X := []) (f := wG X.2.2.1 w) (hL v (by omega)).2
  rw [wG_s hnv, wF_obj hv (by omega)] at hkv
  rw [List.map_cons, List.map_cons, List.map_cons, e1, e2]
  have hac : ac w t a = .inr (.inr (.inr (.inr (fun i => nz (xR w a i))))) := by unfold ac; rw [if_neg (by omega), if_neg (by omega)]
  have hk' := hk
  rw [hac] at hk'
  have go : ∀ (H1 : Heap) (locs1 : List Loc), va_P X.2.1 cls ((va_pl L (wG X.2.2.1 w)).set q0 (a - 1, .inl (X.2.2.1 t, wL w a, .inr (.inr (.inr (.inr (va_up (fun i => nz (xR w a i)) i.toNatClampNeg (some (v - 1))))))))) H1 → va_D (Fr X) ((va_pl L (wG X.2.2.1 w)).set q0 (a - 1, .inl (X.2.2.1 t, wL w a, .inr (.inr (.inr (.inr (va_up (fun i => nz (xR w a i)) i.toNatClampNeg (some (v - 1))))))))) → va_S (Fr X) X.2.2.2 H1 locs1 → W p X.1 e V.1 s m args below meth c H1 locs1 cells slots (V.2.2.2.1 below args s) (F0 m (pc + 1) ls (st.map tv)) := by
    intro H1 locs1 hP1 hD1 hS1
    have hR1 : Rh X (yR w a i.toNatClampNeg v) H1 := by
      refine Rh.set hne hD hL haL (wF_arr ha (by omega)) hk hP1 hD1 (fun _ => rfl) (fun b hb => eqAt_yR hb) ?_
      rw [wF_arr (show wK (yR w a i.toNatClampNeg v) a = t from ha) (by omega)]
      have hx : (fun j => nz (xR (yR w a i.toNatClampNeg v) a j)) = va_up (fun i => nz (xR w a i)) i.toNatClampNeg (some (v - 1)) := by
        funext j
        by_cases hj : j = i.toNatClampNeg <;> simp [xR, yR, u2, va_up, hj, nz_ne hnv]
      show Sum.inl (_, _, ac (yR w a i.toNatClampNeg v) t a) = _
      unfold ac
      rw [if_neg (by omega), if_neg (by omega), hx]
      rfl
    exact kk p e s m args below meth c H1 locs1 cells slots ls hA hV hR1 hS1 hl hc hs hcr hsr
  rcases ht with ⟨rfl, rfl⟩ | ⟨rfl, rfl⟩ | ⟨rfl, rfl⟩
  · exact va_astq (r := (RX0, TX0, 2)) hA.1 hA.2.1 hA.2.2.2.2.2.2.1.1 hP hD hS q0 3 qk 0 hk' rfl hkv rfl hi hd go
  · exact va_astq (r := (RX2, TX2, 13)) hA.1 hA.2.1 hA.2.2.2.2.2.2.1.1 hP hD hS q0 4 qk 2 hk' rfl hkv rfl hi hd go
  · exact va_astq (r := (RX3, TX3, 5)) hA.1 hA.2.1 hA.2.2.2.2.2.2.1.1 hP hD hS q0 5 qk 3 hk' rfl hkv rfl hi hd go
def dv (t : FieldType) : Value := match fk t with
  | 1 => .long 0
  | 2 => .null
  | _ => .int 0
theorem e_new {idx ci : Nat} (hd : decode M.2.1 pc = .ok (.new idx, 3)) (hc12 : ci < 12) (hcl : Cond.classLink M.1.cls idx (cR ci) ∈ tb) (hdv : ∀ j, j < cN ci → defaultValue (cY ci j) = dv (cY ci j)) {rc' rs' : Nat} (h1 : rc = rc' + 1) (h2 : rs = rs' + cN ci) (kk : ∀ q : Nat, wK w q = 0 → q ≠ 0 → EJ X M V rc' rs' (pc + 3) lv (vR q :: st) (nO w ci q)) : EJ X M V rc rs pc lv st w := by
  intro p e s m args below meth c H locs cells slots ls hA hV hR hS hl hc hs hcr hsr
  obtain ⟨L, hP, hD, hL⟩ := hR
  subst h1 h2
  refine va_new (ci := ci) (fs := (List.range (cN ci)).map (fun k => dv (cY ci k))) hA.1 hA.2.1 hA.2.2.2.2.2.1 (cls_in ci hc12) (cY ci) (cls_ty ci hc12) hA.2.2.2.2.1 (hA.2.2.2.2.2.1 _ hcl) (hA.2.2.2.2.2.1 _ (cls_inst ci hc12).1) (hA.2.2.2.2.2.1 _ (cls_inst ci hc12).2) hA.2.2.2.2.2.2.1.1 hP hD hS (fun _ h => h) (cls_get ci hc12) (fun j hj => by rw [hdv j hj]; simp [vp_V, hj]) (by omega) (by omega) hd (fun q H1 hP1 hD1 hS1 => ?_)
  have hF : wF X.2.2.1 (nO w ci (q + 1)) (q + 1) = .inr (ci, (List.range (cN ci)).map (fun k => dv (cY ci k))) := by
    rw [wF_obj (by simp [wK, nO, va_up]) hc12]
    congr 2
    unfold fl
    apply List.map_congr_left
    intro k hk
    unfold fv dv
    have e0 : rn 0 = Value.null := rfl
    split <;> simp_all [wI, wJ, wR, nO, z3]
  obtain ⟨hR1, hq⟩ := Rh.push hL hP1 hD1 (fun b hb => eqAt_nO hb) hF
  have e1 : tv (vR (q + 1)) = .ref q := rn_ne (by omega)
  have h5 := kk (q + 1) hq (by omega) p e s m args below meth c H1 locs (cells + 1) (slots + cN ci) ls hA hV hR1 hS1 hl (by omega) (by omega) hcr hsr
  rw [List.map_cons, e1] at h5
  exact h5
theorem RA_inj {U : State} {c1 c2 : ClassId} {ty : FieldType} (h1 : va_RA U c1 ty) (h2 : va_RA U c2 ty) : c1 = c2 := by
  cases ty with
  | object C =>
    obtain ⟨_, _, _, _, _, a⟩ := h1
    obtain ⟨_, _, _, _, _, b⟩ := h2
    rw [a] at b
    exact Option.some.inj b
  | _ =>
    have a : U.vm.findClass _ = some c1 := h1
    have b : U.vm.findClass _ = some c2 := h2
    rw [a] at b
    exact Option.some.inj b

theorem e_newI {n : Int32} {N : Nat} (hd : decode M.2.1 pc = .ok (.newarray .int, 2)) (hn : ¬ n < 0) (hN : n.toNatClampNeg = N) (hb : N ≤ 60000) {rc' rs' : Nat} (h1 : rc = rc' + 1) (h2 : rs = rs' + N) (kk : ∀ q : Nat, wK w q = 0 → q ≠ 0 → EJ X M V rc' rs' (pc + 2) lv (vR q :: st) (nA w 13 q N)) : EJ X M V rc rs pc lv (vI n :: st) w := by
  intro p e s m args below meth c H locs cells slots ls hA hV hR hS hl hc hs hcr hsr
  obtain ⟨L, hP, hD, hL⟩ := hR
  subst h1 h2
  refine va_newa (atype := .int) (ty := .int) (a0 := (N, .inl (fun _ => 0))) hA.1 hA.2.1 (hA.2.2.2.2.2.1 (Cond.arrayClass .int) (tb_of (by decide +kernel) rfl)) rfl hA.2.2.2.2.2.2.1.1 hP hD hS (fun _ h => h) (fun cA => rfl) hn hN (by simp [componentBytes]; omega) (by omega) (by omega) hd (fun q cA H1 hK1 hP1 hD1 hS1 => ?_)
  have hcA : cA = X.2.2.1 13 := RA_inj (hK1.2 6 (cA, .int) rfl).2 (hA.2.2.2.2.2.2.1.1.2 (13 - 13) _ (tysX_get X 13 (by omega) (by omega))).2
  subst hcA
  have hF : wF X.2.2.1 (nA w 13 (q + 1) N) (q + 1) = .inl (X.2.2.1 13, (N, .inl (fun _ => 0))) := by
    rw [wF_arr (t := 13) (by simp [wK, nA, va_up]) (by omega)]
    congr 2
    refine Prod.ext (by simp [wL, nA, va_up]) ?_
    have hi : xI (nA w 13 (q + 1) N) (q + 1) = fun _ => 0 := by funext j; simp [xI, nA, z2]
    have hj : xJ (nA w 13 (q + 1) N) (q + 1) = fun _ => 0 := by funext j; simp [xJ, nA, z2]
    show ac (nA w 13 (q + 1) N) 13 (q + 1) = _
    unfold ac
    simp [hi, hj]
  obtain ⟨hR1, hq⟩ := Rh.push hL hP1 hD1 (fun b hb => eqAt_nA hb) hF
  have e1 : tv (vR (q + 1)) = .ref q := rn_ne (by omega)
  have h5 := kk (q + 1) hq (by omega) p e s m args below meth c H1 locs (cells + 1) (slots + N) ls hA hV hR1 hS1 hl (by omega) (by omega) hcr hsr
  rw [List.map_cons, e1] at h5
  exact h5
theorem e_newJ {n : Int32} {N : Nat} (hd : decode M.2.1 pc = .ok (.newarray .long, 2)) (hn : ¬ n < 0) (hN : n.toNatClampNeg = N) (hb : N ≤ 60000) {rc' rs' : Nat} (h1 : rc = rc' + 1) (h2 : rs = rs' + N) (kk : ∀ q : Nat, wK w q = 0 → q ≠ 0 → EJ X M V rc' rs' (pc + 2) lv (vR q :: st) (nA w 14 q N)) : EJ X M V rc rs pc lv (vI n :: st) w := by
  intro p e s m args below meth c H locs cells slots ls hA hV hR hS hl hc hs hcr hsr
  obtain ⟨L, hP, hD, hL⟩ := hR
  subst h1 h2
  refine va_newa (atype := .long) (ty := .long) (a0 := (N, .inr (.inl (fun _ => 0)))) hA.1 hA.2.1 (hA.2.2.2.2.2.1 (Cond.arrayClass .long) (tb_of (by decide +kernel) rfl)) rfl hA.2.2.2.2.2.2.1.1 hP hD hS (fun _ h => h) (fun cA => rfl) hn hN (by simp [componentBytes]; omega) (by omega) (by omega) hd (fun q cA H1 hK1 hP1 hD1 hS1 => ?_)
  have hcA : cA = X.2.2.1 14 := RA_inj (hK1.2 6 (cA, .long) rfl).2 (hA.2.2.2.2.2.2.1.1.2 (14 - 13) _ (tysX_get X 14 (by omega) (by omega))).2
  subst hcA
  have hF : wF X.2.2.1 (nA w 14 (q + 1) N) (q + 1) = .inl (X.2.2.1 14, (N, .inr (.inl (fun _ => 0)))) := by
    rw [wF_arr (t := 14) (by simp [wK, nA, va_up]) (by omega)]
    congr 2
    refine Prod.ext (by simp [wL, nA, va_up]) ?_
    have hi : xI (nA w 14 (q + 1) N) (q + 1) = fun _ => 0 := by funext j; simp [xI, nA, z2]
    have hj : xJ (nA w 14 (q + 1) N) (q + 1) = fun _ => 0 := by funext j; simp [xJ, nA, z2]
    show ac (nA w 14 (q + 1) N) 14 (q + 1) = _
    unfold ac
    simp [hi, hj]
  obtain ⟨hR1, hq⟩ := Rh.push hL hP1 hD1 (fun b hb => eqAt_nA hb) hF
  have e1 : tv (vR (q + 1)) = .ref q := rn_ne (by omega)
  have h5 := kk (q + 1) hq (by omega) p e s m args below meth c H1 locs (cells + 1) (slots + N) ls hA hV hR1 hS1 hl (by omega) (by omega) hcr hsr
  rw [List.map_cons, e1] at h5
  exact h5
theorem e_newZ {n : Int32} {N : Nat} (hd : decode M.2.1 pc = .ok (.newarray .boolean, 2)) (hn : ¬ n < 0) (hN : n.toNatClampNeg = N) (hb : N ≤ 60000) {rc' rs' : Nat} (h1 : rc = rc' + 1) (h2 : rs = rs' + N) (kk : ∀ q : Nat, wK w q = 0 → q ≠ 0 → EJ X M V rc' rs' (pc + 2) lv (vR q :: st) (nA w 15 q N)) : EJ X M V rc rs pc lv (vI n :: st) w := by
  intro p e s m args below meth c H locs cells slots ls hA hV hR hS hl hc hs hcr hsr
  obtain ⟨L, hP, hD, hL⟩ := hR
  subst h1 h2
  refine va_newa (atype := .boolean) (ty := .boolean) (a0 := (N, .inl (fun _ => 0))) hA.1 hA.2.1 (hA.2.2.2.2.2.1 (Cond.arrayClass .boolean) (tb_of (by decide +kernel) rfl)) rfl hA.2.2.2.2.2.2.1.1 hP hD hS (fun _ h => h) (fun cA => rfl) hn hN (by simp [componentBytes]; omega) (by omega) (by omega) hd (fun q cA H1 hK1 hP1 hD1 hS1 => ?_)
  have hcA : cA = X.2.2.1 15 := RA_inj (hK1.2 6 (cA, .boolean) rfl).2 (hA.2.2.2.2.2.2.1.1.2 (15 - 13) _ (tysX_get X 15 (by omega) (by omega))).2
  subst hcA
  have hF : wF X.2.2.1 (nA w 15 (q + 1) N) (q + 1) = .inl (X.2.2.1 15, (N, .inl (fun _ => 0))) := by
    rw [wF_arr (t := 15) (by simp [wK, nA, va_up]) (by omega)]
    congr 2
    refine Prod.ext (by simp [wL, nA, va_up]) ?_
    have hi : xI (nA w 15 (q + 1) N) (q + 1) = fun _ => 0 := by funext j; simp [xI, nA, z2]
    have hj : xJ (nA w 15 (q + 1) N) (q + 1) = fun _ => 0 := by funext j; simp [xJ, nA, z2]
    show ac (nA w 15 (q + 1) N) 15 (q + 1) = _
    unfold ac
    simp [hi, hj]
  obtain ⟨hR1, hq⟩ := Rh.push hL hP1 hD1 (fun b hb => eqAt_nA hb) hF
  have e1 : tv (vR (q + 1)) = .ref q := rn_ne (by omega)
  have h5 := kk (q + 1) hq (by omega) p e s m args below meth c H1 locs (cells + 1) (slots + N) ls hA hV hR1 hS1 hl (by omega) (by omega) hcr hsr
  rw [List.map_cons, e1] at h5
  exact h5
theorem e_newR {idx t : Nat} {C : String} {n : Int32} {N : Nat} (hd : decode M.2.1 pc = .ok (.anewarray idx, 3)) (ht : (t = 16 ∧ C = RX0) ∨ (t = 17 ∧ C = RX2) ∨ (t = 18 ∧ C = RX3)) (hcl : Cond.classLink M.1.cls idx C ∈ tb) (hn : ¬ n < 0) (hN : n.toNatClampNeg = N) (hb : N ≤ 60000) {rc' rs' : Nat} (h1 : rc = rc' + 1) (h2 : rs = rs' + N) (kk : ∀ q : Nat, wK w q = 0 → q ≠ 0 → EJ X M V rc' rs' (pc + 3) lv (vR q :: st) (nA w t q N)) : EJ X M V rc rs pc lv (vI n :: st) w := by
  intro p e s m args below meth c H locs cells slots ls hA hV hR hS hl hc hs hcr hsr
  obtain ⟨L, hP, hD, hL⟩ := hR
  subst h1 h2
  have AO := hA.2.2.2.2.2.2.1.2
  refine va_newq (C := C) hA.1 hA.2.1 hA.2.2.2.2.1 (hA.2.2.2.2.2.1 _ hcl) (ht.elim (fun q => by rw [q.2]; exact AO.1) (fun q => q.elim (fun q => by rw [q.2]; exact AO.2.1) (fun q => by rw [q.2]; exact AO.2.2))) hA.2.2.2.2.2.2.1.1 hP hD hS (fun _ h => h) hn hN (by omega) (by omega) (by omega) hd (fun q cA H1 hK1 hP1 hD1 hS1 => ?_)
  have hcA : cA = X.2.2.1 t := by
    have a1 := (hK1.2 6 (cA, .object C) rfl).2
    have a2 := (hA.2.2.2.2.2.2.1.1.2 (t - 13) _ (tysX_get X t (by omega) (by omega))).2
    rcases ht with ⟨rfl, rfl⟩ | ⟨rfl, rfl⟩ | ⟨rfl, rfl⟩ <;> exact RA_inj a1 a2
  subst hcA
  have hF : wF X.2.2.1 (nA w t (q + 1) N) (q + 1) = .inl (X.2.2.1 t, (N, .inr (.inr (.inr (.inr (fun _ => none)))))) := by
    rw [wF_arr (t := t) (by simp [wK, nA, va_up]) (by omega)]
    congr 2
    refine Prod.ext (by simp [wL, nA, va_up]) ?_
    have hr : (fun i => nz (xR (nA w t (q + 1) N) (q + 1) i)) = fun _ => none := by funext j; simp [xR, nA, z2, nz]
    show ac (nA w t (q + 1) N) t (q + 1) = _
    unfold ac
    rw [if_neg (by omega), if_neg (by omega), hr]
  obtain ⟨hR1, hq⟩ := Rh.push hL hP1 hD1 (fun b hb => eqAt_nA hb) hF
  have e1 : tv (vR (q + 1)) = .ref q := rn_ne (by omega)
  have h5 := kk (q + 1) hq (by omega) p e s m args below meth c H1 locs (cells + 1) (slots + N) ls hA hV hR1 hS1 hl (by omega) (by omega) hcr hsr
  rw [List.map_cons, e1] at h5
  exact h5
end E1
