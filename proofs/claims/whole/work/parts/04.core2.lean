/-! ===== the judgement ===== -/
abbrev Me : Type := MethodName × ByteArray × Nat × Option FieldType
abbrev Bu : Type := Nat × Nat × Nat
def rmO (B : Bu) : Room := { frames := B.1, cells := B.2.1, slots := B.2.2, locals := 60 * B.1 }
/-- room, most cells, most slots, the end, what more is known of the start -/
abbrev Vw : Type := Room × Nat × Nat × (List Frame → Array Value → State → State → Prop) × (State → Prop)
def Qw (X : Cx) (Q : Option Av → Wd → Prop) : Array Value → State → Outcome → State → Prop := fun _ _ oc t => ∃ (r : Option Av) (w' : Wd), oc = .returned (r.map tv) ∧ Q r w' ∧ Rh X w' t.heap ∧ va_S (Fr X) X.2.2.2 t.heap []
def vw (X : Cx) (B : Bu) (Q : Option Av → Wd → Prop) : Vw := (rmO B, B.2.1, B.2.2, (fun below args s => MQ below (Qw X Q) args s B.2.1 B.2.2 (Fr X)), fun _ => True)
def KK (X : Cx) (s : State) : Prop := va_K X.2.1 cls (tysX X) s ∧ va_AO RX0 s ∧ va_AO RX2 s ∧ va_AO RX3 s
theorem KK.moved {X : Cx} {u U : State} (hvm : u.vm.Alike U.vm) (h : KK X u) : KK X U := ⟨va_K.moved hvm h.1, h.2.1.moved hvm, h.2.2.1.moved hvm, h.2.2.2.moved hvm⟩
def Ax (X : Cx) (M : Me) (p : Program) (s : State) (m : MethodId) (args : Array Value) (meth : Method) (c : Code) : Prop :=
  p.tables.exec = Jvm.exec ∧ c.code = M.2.1 ∧ meth.sig.returnType = M.2.2.2 ∧ c.maxLocals = M.2.2.1 ∧ s.vm.findClass M.1.cls = some m.cls ∧ (∀ w ∈ tb, w.before args s = true) ∧ KK X s ∧ meth.locks = false ∧ (M.1.name = "<init>" → meth.name = M.1.name) ∧ 0 < X.2.2.2.size
def t2 (q : Nat × Av) : Nat × Value := (q.1, tv q.2)
def EJ (X : Cx) (M : Me) (V : Vw) (rc rs pc : Nat) (lv : List (Nat × Av)) (st : List Av) (w : Wd) : Prop :=
  ∀ (p : Program) (e : Env) (s : State) (m : MethodId) (args : Array Value) (below : List Frame) (meth : Method) (c : Code) (H : Heap) (locs : List Loc) (cells slots : Nat) (ls : Array Slot),
    Ax X M p s m args meth c → V.2.2.2.2 s → Rh X w H → va_S (Fr X) X.2.2.2 H locs → lv_has ls M.2.2.1 (lv.map t2) → cells + rc ≤ V.2.1 → slots + rs ≤ V.2.2.1 → V.2.1 ≤ V.1.cells → V.2.2.1 ≤ V.1.slots →
    W p X.1 e V.1 s m args below meth c H locs cells slots (V.2.2.2.1 below args s) (F0 m pc ls (st.map tv))
theorem EJ.less {X : Cx} {M : Me} {V : Vw} {rc rs rc' rs' pc : Nat} {lv : List (Nat × Av)} {st : List Av} {w : Wd} (h1 : rc ≤ rc') (h2 : rs ≤ rs') (h : EJ X M V rc rs pc lv st w) : EJ X M V rc' rs' pc lv st w := by
  intro p e s m args below meth c H locs cells slots ls hA hV hR hS hl hc hs hcr hsr
  exact h p e s m args below meth c H locs cells slots ls hA hV hR hS hl (by omega) (by omega) hcr hsr
/-- locals: read, write, entry -/
def lvG (lv : List (Nat × Av)) (i : Nat) : Option Av := match lv with
  | [] => none
  | q :: t => if q.1 == i then some q.2 else lvG t i
theorem lvG_mem {lv : List (Nat × Av)} {i : Nat} {v : Av} (h : lvG lv i = some v) : (i, v) ∈ lv := by
  induction lv with
  | nil => cases h
  | cons q t ih =>
    unfold lvG at h
    by_cases hq : q.1 == i
    · rw [if_pos hq] at h
      cases h
      have : q.1 = i := by simpa using hq
      subst this
      exact List.mem_cons_self
    · rw [if_neg hq] at h
      exact List.mem_cons_of_mem _ (ih h)
theorem lvG_at {ls : Array Slot} {n : Nat} {lv : List (Nat × Av)} {i : Nat} {v : Av} (hl : lv_has ls n (lv.map t2)) (h : lvG lv i = some v) : ls[i]? = some (.val (tv v)) :=
  hl.2.2 (i, tv v) (List.mem_map.mpr ⟨(i, v), lvG_mem h, rfl⟩)
def lvF (i : Nat) (v : Av) (lv : List (Nat × Av)) : List (Nat × Av) := match lv with
  | [] => []
  | q :: t => if (q.1 == i) || (isJ v && q.1 == i + 1) || (isJ q.2 && q.1 + 1 == i) then lvF i v t else q :: lvF i v t
def lvI (i : Nat) (v : Av) (lv : List (Nat × Av)) : List (Nat × Av) := match lv with
  | [] => [(i, v)]
  | q :: t => if Nat.blt i q.1 then (i, v) :: q :: t else q :: lvI i v t
def lvS (i : Nat) (v : Av) (lv : List (Nat × Av)) : List (Nat × Av) := lvI i v (lvF i v lv)
theorem lvI_mem {i : Nat} {v : Av} {lv : List (Nat × Av)} {q : Nat × Av} (h : q ∈ lvI i v lv) : q = (i, v) ∨ q ∈ lv := by
  induction lv with
  | nil => simpa [lvI] using h
  | cons r t ih =>
    unfold lvI at h
    split at h
    · rcases List.mem_cons.mp h with h | h
      · exact Or.inl h
      · exact Or.inr h
    · rcases List.mem_cons.mp h with h | h
      · exact Or.inr (by rw [h]; exact List.mem_cons_self)
      · rcases ih h with h | h
        · exact Or.inl h
        · exact Or.inr (List.mem_cons_of_mem _ h)
theorem lvF_mem {i : Nat} {v : Av} {lv : List (Nat × Av)} {q : Nat × Av} (h : q ∈ lvF i v lv) : q ∈ lv ∧ ¬ q.1 = i ∧ (isJ v = true → ¬ q.1 = i + 1) ∧ (isJ q.2 = true → ¬ q.1 + 1 = i) := by
  induction lv with
  | nil => cases h
  | cons r t ih =>
    unfold lvF at h
    split at h
    · obtain ⟨h1, h2⟩ := ih h
      exact ⟨List.mem_cons_of_mem _ h1, h2⟩
    · rename_i hn
      rcases List.mem_cons.mp h with h | h
      · subst h
        refine ⟨List.mem_cons_self, fun q1 => hn (by simp [q1]), fun q1 q2 => hn (by simp [q1, q2]), fun q1 q2 => hn (by simp [q1, q2])⟩
      · obtain ⟨h1, h2⟩ := ih h
        exact ⟨List.mem_cons_of_mem _ h1, h2⟩
theorem lvS_has1 {ls : Array Slot} {n i : Nat} {v : Av} {lv : List (Nat × Av)} (hv : isJ v = false) (h : lv_has ls n ((i, tv v) :: (lv.map t2).filter (fun q => !(q.1 == i) && !(q.1 + 1 == i && q.2.category == 2)))) : lv_has ls n ((lvS i v lv).map t2) := by
  refine ⟨h.1, h.2.1, fun q hq => ?_⟩
  obtain ⟨r, hr, rfl⟩ := List.mem_map.mp hq
  rcases lvI_mem hr with rfl | hr
  · exact h.2.2 _ List.mem_cons_self
  · obtain ⟨h1, h2, h3, h4⟩ := lvF_mem hr
    refine h.2.2 _ (List.mem_cons_of_mem _ (List.mem_filter.mpr ⟨List.mem_map.mpr ⟨r, h1, rfl⟩, ?_⟩))
    have hc : (tv r.2).category = if isJ r.2 then 2 else 1 := (cat_tv _).trans (cat_J _)
    cases hj : isJ r.2
    · simp [t2, h2, hc, hj]
    · have := h4 hj
      simp [t2, h2, this]
theorem lvS_has2 {ls : Array Slot} {n i : Nat} {v : Av} {lv : List (Nat × Av)} (hv : isJ v = true) (h : lv_has ls n ((i, tv v) :: (lv.map t2).filter (fun q => !(q.1 == i) && (!(q.1 == i + 1) && !(q.1 + 1 == i && q.2.category == 2))))) : lv_has ls n ((lvS i v lv).map t2) := by
  refine ⟨h.1, h.2.1, fun q hq => ?_⟩
  obtain ⟨r, hr, rfl⟩ := List.mem_map.mp hq
  rcases lvI_mem hr with rfl | hr
  · exact h.2.2 _ List.mem_cons_self
  · obtain ⟨h1, h2, h3, h4⟩ := lvF_mem hr
    refine h.2.2 _ (List.mem_cons_of_mem _ (List.mem_filter.mpr ⟨List.mem_map.mpr ⟨r, h1, rfl⟩, ?_⟩))
    have hc : (tv r.2).category = if isJ r.2 then 2 else 1 := (cat_tv _).trans (cat_J _)
    have h5 := h3 hv
    cases hj : isJ r.2
    · simp [t2, h2, h5, hc, hj]
    · have := h4 hj
      simp [t2, h2, h5, this]
section E0
variable {X : Cx} {M : Me} {V : Vw} {rc rs pc : Nat} {lv : List (Nat × Av)} {st : List Av} {w : Wd}

theorem e_iconst {n : Int} {v : Int32} (hd : decode M.2.1 pc = .ok (.iconst n, 1)) (hv : Int32.ofInt n = v) (kk : EJ X M V rc rs (pc + 1) lv (vI v :: st) w) : EJ X M V rc rs pc lv (st) w := by
  intro p e s m args below meth c H locs cells slots ls hA hV hR hS hl hc hs hcr hsr
  exact lv_iconst hA.1 hA.2.1 hd hv (kk p e s m args below meth c H locs cells slots ls hA hV hR hS hl hc hs hcr hsr)
theorem e_bipush {n : Int} {v : Int32} (hd : decode M.2.1 pc = .ok (.bipush n, 2)) (hv : (Int8.ofInt n).toInt32 = v) (kk : EJ X M V rc rs (pc + 2) lv (vI v :: st) w) : EJ X M V rc rs pc lv (st) w := by
  intro p e s m args below meth c H locs cells slots ls hA hV hR hS hl hc hs hcr hsr
  exact lv_bipush hA.1 hA.2.1 hd hv (kk p e s m args below meth c H locs cells slots ls hA hV hR hS hl hc hs hcr hsr)
theorem e_sipush {n : Int} {v : Int32} (hd : decode M.2.1 pc = .ok (.sipush n, 3)) (hv : (Int16.ofInt n).toInt32 = v) (kk : EJ X M V rc rs (pc + 3) lv (vI v :: st) w) : EJ X M V rc rs pc lv (st) w := by
  intro p e s m args below meth c H locs cells slots ls hA hV hR hS hl hc hs hcr hsr
  exact lv_sipush hA.1 hA.2.1 hd hv (kk p e s m args below meth c H locs cells slots ls hA hV hR hS hl hc hs hcr hsr)
theorem e_lconst {n : Fin 2} {v : Int64} (hd : decode M.2.1 pc = .ok (.lconst n, 1)) (hv : Int64.ofNat (n : Nat) = v) (kk : EJ X M V rc rs (pc + 1) lv (vJ v :: st) w) : EJ X M V rc rs pc lv (st) w := by
  intro p e s m args below meth c H locs cells slots ls hA hV hR hS hl hc hs hcr hsr
  exact lv_lconst hA.1 hA.2.1 hd hv (kk p e s m args below meth c H locs cells slots ls hA hV hR hS hl hc hs hcr hsr)
theorem e_ldc {idx : Nat} {v : Int32} (hd : decode M.2.1 pc = .ok (.ldc idx, 2)) (hk : Jvm.Cond.constant M.1.cls idx v ∈ tb) (kk : EJ X M V rc rs (pc + 2) lv (vI v :: st) w) : EJ X M V rc rs pc lv (st) w := by
  intro p e s m args below meth c H locs cells slots ls hA hV hR hS hl hc hs hcr hsr
  exact lv_ldc hA.1 hA.2.1 hA.2.2.2.2.1 (hA.2.2.2.2.2.1 _ hk) hd (kk p e s m args below meth c H locs cells slots ls hA hV hR hS hl hc hs hcr hsr)
theorem e_ldc_w {idx : Nat} {v : Int32} (hd : decode M.2.1 pc = .ok (.ldc_w idx, 3)) (hk : Jvm.Cond.constant M.1.cls idx v ∈ tb) (kk : EJ X M V rc rs (pc + 3) lv (vI v :: st) w) : EJ X M V rc rs pc lv (st) w := by
  intro p e s m args below meth c H locs cells slots ls hA hV hR hS hl hc hs hcr hsr
  exact lv_ldcw hA.1 hA.2.1 hA.2.2.2.2.1 (hA.2.2.2.2.2.1 _ hk) hd (kk p e s m args below meth c H locs cells slots ls hA hV hR hS hl hc hs hcr hsr)
theorem e_ldc2 {idx : Nat} {v : Int64} (hd : decode M.2.1 pc = .ok (.ldc2_w idx, 3)) (hk : Jvm.Cond.constantLong M.1.cls idx v ∈ tb) (kk : EJ X M V rc rs (pc + 3) lv (vJ v :: st) w) : EJ X M V rc rs pc lv (st) w := by
  intro p e s m args below meth c H locs cells slots ls hA hV hR hS hl hc hs hcr hsr
  exact lv_ldc2 hA.1 hA.2.1 hA.2.2.2.2.1 (hA.2.2.2.2.2.1 _ hk) hd (kk p e s m args below meth c H locs cells slots ls hA hV hR hS hl hc hs hcr hsr)
theorem e_null  (hd : decode M.2.1 pc = .ok (.aconst_null, 1)) (kk : EJ X M V rc rs (pc + 1) lv (vR 0 :: st) w) : EJ X M V rc rs pc lv (st) w := by
  intro p e s m args below meth c H locs cells slots ls hA hV hR hS hl hc hs hcr hsr
  exact lv_null hA.1 hA.2.1 hd (kk p e s m args below meth c H locs cells slots ls hA hV hR hS hl hc hs hcr hsr)
theorem e_iload_n {k : Fin 4} {i : Nat} {x : Int32} (hd : decode M.2.1 pc = .ok (.iload_n k, 1)) (hi : (k : Nat) = i) (hg : lvG lv i = some (vI x)) (kk : EJ X M V rc rs (pc + 1) lv (vI x :: st) w) : EJ X M V rc rs pc lv (st) w := by
  intro p e s m args below meth c H locs cells slots ls hA hV hR hS hl hc hs hcr hsr
  exact lv_iload_n hA.1 hA.2.1 hd hi (lvG_at hl hg) (kk p e s m args below meth c H locs cells slots ls hA hV hR hS hl hc hs hcr hsr)
theorem e_iload {i : Nat} {x : Int32} (hd : decode M.2.1 pc = .ok (.iload i, 2)) (hg : lvG lv i = some (vI x)) (kk : EJ X M V rc rs (pc + 2) lv (vI x :: st) w) : EJ X M V rc rs pc lv (st) w := by
  intro p e s m args below meth c H locs cells slots ls hA hV hR hS hl hc hs hcr hsr
  exact lv_iload hA.1 hA.2.1 hd (lvG_at hl hg) (kk p e s m args below meth c H locs cells slots ls hA hV hR hS hl hc hs hcr hsr)
theorem e_lload_n {k : Fin 4} {i : Nat} {x : Int64} (hd : decode M.2.1 pc = .ok (.lload_n k, 1)) (hi : (k : Nat) = i) (hg : lvG lv i = some (vJ x)) (kk : EJ X M V rc rs (pc + 1) lv (vJ x :: st) w) : EJ X M V rc rs pc lv (st) w := by
  intro p e s m args below meth c H locs cells slots ls hA hV hR hS hl hc hs hcr hsr
  exact lv_lload_n hA.1 hA.2.1 hd hi (lvG_at hl hg) (kk p e s m args below meth c H locs cells slots ls hA hV hR hS hl hc hs hcr hsr)
theorem e_lload {i : Nat} {x : Int64} (hd : decode M.2.1 pc = .ok (.lload i, 2)) (hg : lvG lv i = some (vJ x)) (kk : EJ X M V rc rs (pc + 2) lv (vJ x :: st) w) : EJ X M V rc rs pc lv (st) w := by
  intro p e s m args below meth c H locs cells slots ls hA hV hR hS hl hc hs hcr hsr
  exact lv_lload hA.1 hA.2.1 hd (lvG_at hl hg) (kk p e s m args below meth c H locs cells slots ls hA hV hR hS hl hc hs hcr hsr)
theorem e_aload_n {k : Fin 4} {i : Nat} {a : Nat} (hd : decode M.2.1 pc = .ok (.aload_n k, 1)) (hi : (k : Nat) = i) (hg : lvG lv i = some (vR a)) (kk : EJ X M V rc rs (pc + 1) lv (vR a :: st) w) : EJ X M V rc rs pc lv st w := by
  intro p e s m args below meth c H locs cells slots ls hA hV hR hS hl hc hs hcr hsr
  have h1 := lvG_at hl hg
  have h2 := kk p e s m args below meth c H locs cells slots ls hA hV hR hS hl hc hs hcr hsr
  by_cases h : a = 0
  · subst h
    exact lv_aload_nN hA.1 hA.2.1 hd hi h1 h2
  · have e : tv (vR a) = .ref (a - 1) := rn_ne h
    rw [e] at h1
    rw [List.map_cons, e] at h2
    exact lv_aload_n hA.1 hA.2.1 hd hi h1 h2
theorem e_aload {i : Nat} {a : Nat} (hd : decode M.2.1 pc = .ok (.aload i, 2)) (hg : lvG lv i = some (vR a)) (kk : EJ X M V rc rs (pc + 2) lv (vR a :: st) w) : EJ X M V rc rs pc lv st w := by
  intro p e s m args below meth c H locs cells slots ls hA hV hR hS hl hc hs hcr hsr
  have h1 := lvG_at hl hg
  have h2 := kk p e s m args below meth c H locs cells slots ls hA hV hR hS hl hc hs hcr hsr
  by_cases h : a = 0
  · subst h
    exact lv_aloadN hA.1 hA.2.1 hd h1 h2
  · have e : tv (vR a) = .ref (a - 1) := rn_ne h
    rw [e] at h1
    rw [List.map_cons, e] at h2
    exact lv_aload hA.1 hA.2.1 hd h1 h2
theorem e_istore_n {k : Fin 4} {i : Nat} {x : Int32} {lv' : List (Nat × Av)} (hd : decode M.2.1 pc = .ok (.istore_n k, 1)) (hi : (k : Nat) = i) (hn : i < M.2.2.1) (he : lvS i (vI x) lv = lv') (kk : EJ X M V rc rs (pc + 1) lv' st w) : EJ X M V rc rs pc lv (vI x :: st) w := by
  intro p e s m args below meth c H locs cells slots ls hA hV hR hS hl hc hs hcr hsr
  subst he
  exact lv_istore_n hA.1 hA.2.1 hd hi hl hn rfl (fun ls hl => kk p e s m args below meth c H locs cells slots ls hA hV hR hS (lvS_has1 rfl hl) hc hs hcr hsr)
theorem e_istore {i : Nat} {x : Int32} {lv' : List (Nat × Av)} (hd : decode M.2.1 pc = .ok (.istore i, 2)) (hn : i < M.2.2.1) (he : lvS i (vI x) lv = lv') (kk : EJ X M V rc rs (pc + 2) lv' st w) : EJ X M V rc rs pc lv (vI x :: st) w := by
  intro p e s m args below meth c H locs cells slots ls hA hV hR hS hl hc hs hcr hsr
  subst he
  exact lv_istore hA.1 hA.2.1 hd hl hn rfl (fun ls hl => kk p e s m args below meth c H locs cells slots ls hA hV hR hS (lvS_has1 rfl hl) hc hs hcr hsr)
theorem e_lstore_n {k : Fin 4} {i : Nat} {x : Int64} {lv' : List (Nat × Av)} (hd : decode M.2.1 pc = .ok (.lstore_n k, 1)) (hi : (k : Nat) = i) (hn : i + 1 < M.2.2.1) (he : lvS i (vJ x) lv = lv') (kk : EJ X M V rc rs (pc + 1) lv' st w) : EJ X M V rc rs pc lv (vJ x :: st) w := by
  intro p e s m args below meth c H locs cells slots ls hA hV hR hS hl hc hs hcr hsr
  subst he
  exact lv_lstore_n hA.1 hA.2.1 hd hi hl hn rfl (fun ls hl => kk p e s m args below meth c H locs cells slots ls hA hV hR hS (lvS_has2 rfl hl) hc hs hcr hsr)
theorem e_lstore {i : Nat} {x : Int64} {lv' : List (Nat × Av)} (hd : decode M.2.1 pc = .ok (.lstore i, 2)) (hn : i + 1 < M.2.2.1) (he : lvS i (vJ x) lv = lv') (kk : EJ X M V rc rs (pc + 2) lv' st w) : EJ X M V rc rs pc lv (vJ x :: st) w := by
  intro p e s m args below meth c H locs cells slots ls hA hV hR hS hl hc hs hcr hsr
  subst he
  exact lv_lstore hA.1 hA.2.1 hd hl hn rfl (fun ls hl => kk p e s m args below meth c H locs cells slots ls hA hV hR hS (lvS_has2 rfl hl) hc hs hcr hsr)
theorem e_astore_n {k : Fin 4} {i : Nat} {a : Nat} {lv' : List (Nat × Av)} (hd : decode M.2.1 pc = .ok (.astore_n k, 1)) (hi : (k : Nat) = i) (hn : i < M.2.2.1) (he : lvS i (vR a) lv = lv') (kk : EJ X M V rc rs (pc + 1) lv' st w) : EJ X M V rc rs pc lv (vR a :: st) w := by
  intro p e s m args below meth c H locs cells slots ls hA hV hR hS hl hc hs hcr hsr
  subst he
  by_cases h : a = 0
  · subst h
    exact lv_astore_nN hA.1 hA.2.1 hd hi hl hn rfl (fun ls hl => kk p e s m args below meth c H locs cells slots ls hA hV hR hS (lvS_has1 rfl hl) hc hs hcr hsr)
  · have e1 : tv (vR a) = .ref (a - 1) := rn_ne h
    rw [List.map_cons, e1]
    exact lv_astore_n hA.1 hA.2.1 hd hi hl hn rfl (fun ls hl => kk p e s m args below meth c H locs cells slots ls hA hV hR hS (lvS_has1 rfl (by rw [e1]; exact hl)) hc hs hcr hsr)
theorem e_astore {i : Nat} {a : Nat} {lv' : List (Nat × Av)} (hd : decode M.2.1 pc = .ok (.astore i, 2)) (hn : i < M.2.2.1) (he : lvS i (vR a) lv = lv') (kk : EJ X M V rc rs (pc + 2) lv' st w) : EJ X M V rc rs pc lv (vR a :: st) w := by
  intro p e s m args below meth c H locs cells slots ls hA hV hR hS hl hc hs hcr hsr
  subst he
  by_cases h : a = 0
  · subst h
    exact lv_astoreN hA.1 hA.2.1 hd hl hn rfl (fun ls hl => kk p e s m args below meth c H locs cells slots ls hA hV hR hS (lvS_has1 rfl hl) hc hs hcr hsr)
  · have e1 : tv (vR a) = .ref (a - 1) := rn_ne h
    rw [List.map_cons, e1]
    exact lv_astore hA.1 hA.2.1 hd hl hn rfl (fun ls hl => kk p e s m args below meth c H locs cells slots ls hA hV hR hS (lvS_has1 rfl (by rw [e1]; exact hl)) hc hs hcr hsr)
theorem e_iinc {i : Nat} {n : Int} {x v : Int32} {lv' : List (Nat × Av)} (hd : decode M.2.1 pc = .ok (.iinc i n, 3)) (hg : lvG lv i = some (vI x)) (hv : x + Int32.ofInt n = v) (hn : i < M.2.2.1) (he : lvS i (vI v) lv = lv') (kk : EJ X M V rc rs (pc + 3) lv' st w) : EJ X M V rc rs pc lv st w := by
  intro p e s m args below meth c H locs cells slots ls hA hV hR hS hl hc hs hcr hsr
  subst he
  obtain ⟨k, hk⟩ := List.getElem?_of_mem (List.mem_map.mpr ⟨(i, vI x), lvG_mem hg, rfl⟩ : t2 (i, vI x) ∈ lv.map t2)
  exact lv_iinc hA.1 hA.2.1 hd hl hk hv hn rfl (fun ls hl => kk p e s m args below meth c H locs cells slots ls hA hV hR hS (lvS_has1 rfl hl) hc hs hcr hsr)
theorem e_iadd {x y : Int32} (hd : decode M.2.1 pc = .ok (.iadd, 1)) (kk : EJ X M V rc rs (pc + 1) lv (vI (x + y) :: st) w) : EJ X M V rc rs pc lv (vI y :: vI x :: st) w := by
  intro p e s m args below meth c H locs cells slots ls hA hV hR hS hl hc hs hcr hsr
  exact lv_iadd hA.1 hA.2.1 hd (kk p e s m args below meth c H locs cells slots ls hA hV hR hS hl hc hs hcr hsr)
theorem e_isub {x y : Int32} (hd : decode M.2.1 pc = .ok (.isub, 1)) (kk : EJ X M V rc rs (pc + 1) lv (vI (x - y) :: st) w) : EJ X M V rc rs pc lv (vI y :: vI x :: st) w := by
  intro p e s m args below meth c H locs cells slots ls hA hV hR hS hl hc hs hcr hsr
  exact lv_isub hA.1 hA.2.1 hd (kk p e s m args below meth c H locs cells slots ls hA hV hR hS hl hc hs hcr hsr)
theorem e_imul {x y : Int32} (hd : decode M.2.1 pc = .ok (.imul, 1)) (kk : EJ X M V rc rs (pc + 1) lv (vI (x * y) :: st) w) : EJ X M V rc rs pc lv (vI y :: vI x :: st) w := by
  intro p e s m args below meth c H locs cells slots ls hA hV hR hS hl hc hs hcr hsr
  exact lv_imul hA.1 hA.2.1 hd (kk p e s m args below meth c H locs cells slots ls hA hV hR hS hl hc hs hcr hsr)
theorem e_iand {x y : Int32} (hd : decode M.2.1 pc = .ok (.iand, 1)) (kk : EJ X M V rc rs (pc + 1) lv (vI (x &&& y) :: st) w) : EJ X M V rc rs pc lv (vI y :: vI x :: st) w := by
  intro p e s m args below meth c H locs cells slots ls hA hV hR hS hl hc hs hcr hsr
  exact lv_iand hA.1 hA.2.1 hd (kk p e s m args below meth c H locs cells slots ls hA hV hR hS hl hc hs hcr hsr)
theorem e_ladd {x y : Int64} (hd : decode M.2.1 pc = .ok (.ladd, 1)) (kk : EJ X M V rc rs (pc + 1) lv (vJ (x + y) :: st) w) : EJ X M V rc rs pc lv (vJ y :: vJ x :: st) w := by
  intro p e s m args below meth c H locs cells slots ls hA hV hR hS hl hc hs hcr hsr
  exact lv_ladd hA.1 hA.2.1 hd (kk p e s m args below meth c H locs cells slots ls hA hV hR hS hl hc hs hcr hsr)
theorem e_lsub {x y : Int64} (hd : decode M.2.1 pc = .ok (.lsub, 1)) (kk : EJ X M V rc rs (pc + 1) lv (vJ (x - y) :: st) w) : EJ X M V rc rs pc lv (vJ y :: vJ x :: st) w := by
  intro p e s m args below meth c H locs cells slots ls hA hV hR hS hl hc hs hcr hsr
  exact lv_lsub hA.1 hA.2.1 hd (kk p e s m args below meth c H locs cells slots ls hA hV hR hS hl hc hs hcr hsr)
theorem e_lmul {x y : Int64} (hd : decode M.2.1 pc = .ok (.lmul, 1)) (kk : EJ X M V rc rs (pc + 1) lv (vJ (x * y) :: st) w) : EJ X M V rc rs pc lv (vJ y :: vJ x :: st) w := by
  intro p e s m args below meth c H locs cells slots ls hA hV hR hS hl hc hs hcr hsr
  exact lv_lmul hA.1 hA.2.1 hd (kk p e s m args below meth c H locs cells slots ls hA hV hR hS hl hc hs hcr hsr)
theorem e_land {x y : Int64} (hd : decode M.2.1 pc = .ok (.land, 1)) (kk : EJ X M V rc rs (pc + 1) lv (vJ (x &&& y) :: st) w) : EJ X M V rc rs pc lv (vJ y :: vJ x :: st) w := by
  intro p e s m args below meth c H locs cells slots ls hA hV hR hS hl hc hs hcr hsr
  exact lv_land hA.1 hA.2.1 hd (kk p e s m args below meth c H locs cells slots ls hA hV hR hS hl hc hs hcr hsr)
theorem e_lor {x y : Int64} (hd : decode M.2.1 pc = .ok (.lor, 1)) (kk : EJ X M V rc rs (pc + 1) lv (vJ (x ||| y) :: st) w) : EJ X M V rc rs pc lv (vJ y :: vJ x :: st) w := by
  intro p e s m args below meth c H locs cells slots ls hA hV hR hS hl hc hs hcr hsr
  exact lv_lor hA.1 hA.2.1 hd (kk p e s m args below meth c H locs cells slots ls hA hV hR hS hl hc hs hcr hsr)
theorem e_lxor {x y : Int64} (hd : decode M.2.1 pc = .ok (.lxor, 1)) (kk : EJ X M V rc rs (pc + 1) lv (vJ (x ^^^ y) :: st) w) : EJ X M V rc rs pc lv (vJ y :: vJ x :: st) w := by
  intro p e s m args below meth c H locs cells slots ls hA hV hR hS hl hc hs hcr hsr
  exact lv_lxor hA.1 hA.2.1 hd (kk p e s m args below meth c H locs cells slots ls hA hV hR hS hl hc hs hcr hsr)
theorem e_idiv {x y : Int32} (hd : decode M.2.1 pc = .ok (.idiv, 1)) (hne : ¬ y = 0) (kk : EJ X M V rc rs (pc + 1) lv (vI (x / y) :: st) w) : EJ X M V rc rs pc lv (vI y :: vI x :: st) w := by
  intro p e s m args below meth c H locs cells slots ls hA hV hR hS hl hc hs hcr hsr
  exact lv_idiv hA.1 hA.2.1 hd hne (kk p e s m args below meth c H locs cells slots ls hA hV hR hS hl hc hs hcr hsr)
theorem e_ldiv {x y : Int64} (hd : decode M.2.1 pc = .ok (.ldiv, 1)) (hne : ¬ y = 0) (kk : EJ X M V rc rs (pc + 1) lv (vJ (x / y) :: st) w) : EJ X M V rc rs pc lv (vJ y :: vJ x :: st) w := by
  intro p e s m args below meth c H locs cells slots ls hA hV hR hS hl hc hs hcr hsr
  exact lv_ldiv hA.1 hA.2.1 hd hne (kk p e s m args below meth c H locs cells slots ls hA hV hR hS hl hc hs hcr hsr)
theorem e_i2l {x : Int32} (hd : decode M.2.1 pc = .ok (.i2l, 1)) (kk : EJ X M V rc rs (pc + 1) lv (vJ x.toInt64 :: st) w) : EJ X M V rc rs pc lv (vI x :: st) w := by
  intro p e s m args below meth c H locs cells slots ls hA hV hR hS hl hc hs hcr hsr
  exact lv_i2l hA.1 hA.2.1 hd rfl (kk p e s m args below meth c H locs cells slots ls hA hV hR hS hl hc hs hcr hsr)
theorem e_l2i {x : Int64} (hd : decode M.2.1 pc = .ok (.l2i, 1)) (kk : EJ X M V rc rs (pc + 1) lv (vI x.toInt32 :: st) w) : EJ X M V rc rs pc lv (vJ x :: st) w := by
  intro p e s m args below meth c H locs cells slots ls hA hV hR hS hl hc hs hcr hsr
  exact lv_l2i hA.1 hA.2.1 hd rfl (kk p e s m args below meth c H locs cells slots ls hA hV hR hS hl hc hs hcr hsr)
theorem e_lshl {x : Int64} {y : Int32} (hd : decode M.2.1 pc = .ok (.lshl, 1)) (kk : EJ X M V rc rs (pc + 1) lv (vJ (x <<< (y.toInt64 &&& 63)) :: st) w) : EJ X M V rc rs pc lv (vI y :: vJ x :: st) w := by
  intro p e s m args below meth c H locs cells slots ls hA hV hR hS hl hc hs hcr hsr
  exact lv_lshl hA.1 hA.2.1 hd rfl (kk p e s m args below meth c H locs cells slots ls hA hV hR hS hl hc hs hcr hsr)
theorem e_lshr {x : Int64} {y : Int32} (hd : decode M.2.1 pc = .ok (.lshr, 1)) (kk : EJ X M V rc rs (pc + 1) lv (vJ (x >>> (y.toInt64 &&& 63)) :: st) w) : EJ X M V rc rs pc lv (vI y :: vJ x :: st) w := by
  intro p e s m args below meth c H locs cells slots ls hA hV hR hS hl hc hs hcr hsr
  exact lv_lshr hA.1 hA.2.1 hd rfl (kk p e s m args below meth c H locs cells slots ls hA hV hR hS hl hc hs hcr hsr)
theorem e_lushr {x : Int64} {y : Int32} (hd : decode M.2.1 pc = .ok (.lushr, 1)) (kk : EJ X M V rc rs (pc + 1) lv (vJ ((x.toUInt64 >>> (y.toInt64.toUInt64 &&& Int64.toUInt64 63)).toInt64) :: st) w) : EJ X M V rc rs pc lv (vI y :: vJ x :: st) w := by
  intro p e s m args below meth c H locs cells slots ls hA hV hR hS hl hc hs hcr hsr
  exact lv_lushr hA.1 hA.2.1 hd rfl (kk p e s m args below meth c H locs cells slots ls hA hV hR hS hl hc hs hcr hsr)
theorem e_lcmp {x y : Int64} (hd : decode M.2.1 pc = .ok (.lcmp, 1)) (kk : EJ X M V rc rs (pc + 1) lv (vI (lg_cmp x y) :: st) w) : EJ X M V rc rs pc lv (vJ y :: vJ x :: st) w := by
  intro p e s m args below meth c H locs cells slots ls hA hV hR hS hl hc hs hcr hsr
  exact W.lcmp hA.1 hA.2.1 hd (kk p e s m args below meth c H locs cells slots ls hA hV hR hS hl hc hs hcr hsr)
theorem e_dup {v : Av} (hd : decode M.2.1 pc = .ok (.dup, 1)) (hv : cat v = 1) (kk : EJ X M V rc rs (pc + 1) lv (v :: v :: st) w) : EJ X M V rc rs pc lv (v :: st) w := by
  intro p e s m args below meth c H locs cells slots ls hA hV hR hS hl hc hs hcr hsr
  exact lv_dup hA.1 hA.2.1 hd ((cat_tv v).trans hv) (kk p e s m args below meth c H locs cells slots ls hA hV hR hS hl hc hs hcr hsr)
theorem e_pop {v : Av} (hd : decode M.2.1 pc = .ok (.pop, 1)) (hv : cat v = 1) (kk : EJ X M V rc rs (pc + 1) lv (st) w) : EJ X M V rc rs pc lv (v :: st) w := by
  intro p e s m args below meth c H locs cells slots ls hA hV hR hS hl hc hs hcr hsr
  exact lv_pop hA.1 hA.2.1 hd ((cat_tv v).trans hv) (kk p e s m args below meth c H locs cells slots ls hA hV hR hS hl hc hs hcr hsr)
theorem e_dup2_2 {v : Av} (hd : decode M.2.1 pc = .ok (.dup2, 1)) (hv : cat v = 2) (kk : EJ X M V rc rs (pc + 1) lv (v :: v :: st) w) : EJ X M V rc rs pc lv (v :: st) w := by
  intro p e s m args below meth c H locs cells slots ls hA hV hR hS hl hc hs hcr hsr
  exact lv_dup2_2 hA.1 hA.2.1 hd ((cat_tv v).trans hv) (kk p e s m args below meth c H locs cells slots ls hA hV hR hS hl hc hs hcr hsr)
theorem e_pop2_2 {v : Av} (hd : decode M.2.1 pc = .ok (.pop2, 1)) (hv : cat v = 2) (kk : EJ X M V rc rs (pc + 1) lv (st) w) : EJ X M V rc rs pc lv (v :: st) w := by
  intro p e s m args below meth c H locs cells slots ls hA hV hR hS hl hc hs hcr hsr
  exact lv_pop2_2 hA.1 hA.2.1 hd ((cat_tv v).trans hv) (kk p e s m args below meth c H locs cells slots ls hA hV hR hS hl hc hs hcr hsr)
theorem e_dup2_11 {v u : Av} (hd : decode M.2.1 pc = .ok (.dup2, 1)) (hv : cat v = 1) (hu : cat u = 1) (kk : EJ X M V rc rs (pc + 1) lv (v :: u :: v :: u :: st) w) : EJ X M V rc rs pc lv (v :: u :: st) w := by
  intro p e s m args below meth c H locs cells slots ls hA hV hR hS hl hc hs hcr hsr
  exact lv_dup2_11 hA.1 hA.2.1 hd ((cat_tv v).trans hv) ((cat_tv u).trans hu) (kk p e s m args below meth c H locs cells slots ls hA hV hR hS hl hc hs hcr hsr)
theorem e_if_eq {x : Int32} {off : Int} {tgt : Nat} (hd : decode M.2.1 pc = .ok (.ifCond .eq off, 3)) (ht : (pc : Int) + off = (tgt : Int)) (kt : x = 0 → EJ X M V rc rs tgt lv st w) (kf : ¬ x = 0 → EJ X M V rc rs (pc + 3) lv st w) : EJ X M V rc rs pc lv (vI x :: st) w := by
  intro p e s m args below meth c H locs cells slots ls hA hV hR hS hl hc hs hcr hsr
  exact lv_if_eq hA.1 hA.2.1 hd ht (fun h => kt h p e s m args below meth c H locs cells slots ls hA hV hR hS hl hc hs hcr hsr) (fun h => kf h p e s m args below meth c H locs cells slots ls hA hV hR hS hl hc hs hcr hsr)
theorem e_icmp_eq {x y : Int32} {off : Int} {tgt : Nat} (hd : decode M.2.1 pc = .ok (.if_icmp .eq off, 3)) (ht : (pc : Int) + off = (tgt : Int)) (kt : x = y → EJ X M V rc rs tgt lv st w) (kf : ¬ x = y → EJ X M V rc rs (pc + 3) lv st w) : EJ X M V rc rs pc lv (vI y :: vI x :: st) w := by
  intro p e s m args below meth c H locs cells slots ls hA hV hR hS hl hc hs hcr hsr
  exact lv_icmp_eq hA.1 hA.2.1 hd ht (fun h => kt h p e s m args below meth c H locs cells slots ls hA hV hR hS hl hc hs hcr hsr) (fun h => kf h p e s m args below meth c H locs cells slots ls hA hV hR hS hl hc hs hcr hsr)
theorem e_if_ne {x : Int32} {off : Int} {tgt : Nat} (hd : decode M.2.1 pc = .ok (.ifCond .ne off, 3)) (ht : (pc : Int) + off = (tgt : Int)) (kt : ¬ x = 0 → EJ X M V rc rs tgt lv st w) (kf : x = 0 → EJ X M V rc rs (pc + 3) lv st w) : EJ X M V rc rs pc lv (vI x :: st) w := by
  intro p e s m args below meth c H locs cells slots ls hA hV hR hS hl hc hs hcr hsr
  exact lv_if_ne hA.1 hA.2.1 hd ht (fun h => kt h p e s m args below meth c H locs cells slots ls hA hV hR hS hl hc hs hcr hsr) (fun h => kf h p e s m args below meth c H locs cells slots ls hA hV hR hS hl hc hs hcr hsr)
theorem e_icmp_ne {x y : Int32} {off : Int} {tgt : Nat} (hd : decode M.2.1 pc = .ok (.if_icmp .ne off, 3)) (ht : (pc : Int) + off = (tgt : Int)) (kt : ¬ x = y → EJ X M V rc rs tgt lv st w) (kf : x = y → EJ X M V rc rs (pc + 3) lv st w) : EJ X M V rc rs pc lv (vI y :: vI x :: st) w := by
  intro p e s m args below meth c H locs cells slots ls hA hV hR hS hl hc hs hcr hsr
  exact lv_icmp_ne hA.1 hA.2.1 hd ht (fun h => kt h p e s m args below meth c H locs cells slots ls hA hV hR hS hl hc hs hcr hsr) (fun h => kf h p e s m args below meth c H locs cells slots ls hA hV hR hS hl hc hs hcr hsr)
theorem e_if_lt {x : Int32} {off : Int} {tgt : Nat} (hd : decode M.2.1 pc = .ok (.ifCond .lt off, 3)) (ht : (pc : Int) + off = (tgt : Int)) (kt : x < 0 → EJ X M V rc rs tgt lv st w) (kf : ¬ x < 0 → EJ X M V rc rs (pc + 3) lv st w) : EJ X M V rc rs pc lv (vI x :: st) w := by
  intro p e s m args below meth c H locs cells slots ls hA hV hR hS hl hc hs hcr hsr
  exact lv_if_lt hA.1 hA.2.1 hd ht (fun h => kt h p e s m args below meth c H locs cells slots ls hA hV hR hS hl hc hs hcr hsr) (fun h => kf h p e s m args below meth c H locs cells slots ls hA hV hR hS hl hc hs hcr hsr)
theorem e_icmp_lt {x y : Int32} {off : Int} {tgt : Nat} (hd : decode M.2.1 pc = .ok (.if_icmp .lt off, 3)) (ht : (pc : Int) + off = (tgt : Int)) (kt : x < y → EJ X M V rc rs tgt lv st w) (kf : ¬ x < y → EJ X M V rc rs (pc + 3) lv st w) : EJ X M V rc rs pc lv (vI y :: vI x :: st) w := by
  intro p e s m args below meth c H locs cells slots ls hA hV hR hS hl hc hs hcr hsr
  exact lv_icmp_lt hA.1 hA.2.1 hd ht (fun h => kt h p e s m args below meth c H locs cells slots ls hA hV hR hS hl hc hs hcr hsr) (fun h => kf h p e s m args below meth c H locs cells slots ls hA hV hR hS hl hc hs hcr hsr)
theorem e_if_ge {x : Int32} {off : Int} {tgt : Nat} (hd : decode M.2.1 pc = .ok (.ifCond .ge off, 3)) (ht : (pc : Int) + off = (tgt : Int)) (kt : 0 ≤ x → EJ X M V rc rs tgt lv st w) (kf : ¬ 0 ≤ x → EJ X M V rc rs (pc + 3) lv st w) : EJ X M V rc rs pc lv (vI x :: st) w := by
  intro p e s m args below meth c H locs cells slots ls hA hV hR hS hl hc hs hcr hsr
  exact lv_if_ge hA.1 hA.2.1 hd ht (fun h => kt h p e s m args below meth c H locs cells slots ls hA hV hR hS hl hc hs hcr hsr) (fun h => kf h p e s m args below meth c H locs cells slots ls hA hV hR hS hl hc hs hcr hsr)
theorem e_icmp_ge {x y : Int32} {off : Int} {tgt : Nat} (hd : decode M.2.1 pc = .ok (.if_icmp .ge off, 3)) (ht : (pc : Int) + off = (tgt : Int)) (kt : y ≤ x → EJ X M V rc rs tgt lv st w) (kf : ¬ y ≤ x → EJ X M V rc rs (pc + 3) lv st w) : EJ X M V rc rs pc lv (vI y :: vI x :: st) w := by
  intro p e s m args below meth c H locs cells slots ls hA hV hR hS hl hc hs hcr hsr
  exact lv_icmp_ge hA.1 hA.2.1 hd ht (fun h => kt h p e s m args below meth c H locs cells slots ls hA hV hR hS hl hc hs hcr hsr) (fun h => kf h p e s m args below meth c H locs cells slots ls hA hV hR hS hl hc hs hcr hsr)
theorem e_if_gt {x : Int32} {off : Int} {tgt : Nat} (hd : decode M.2.1 pc = .ok (.ifCond .gt off, 3)) (ht : (pc : Int) + off = (tgt : Int)) (kt : 0 < x → EJ X M V rc rs tgt lv st w) (kf : ¬ 0 < x → EJ X M V rc rs (pc + 3) lv st w) : EJ X M V rc rs pc lv (vI x :: st) w := by
  intro p e s m args below meth c H locs cells slots ls hA hV hR hS hl hc hs hcr hsr
  exact lv_if_gt hA.1 hA.2.1 hd ht (fun h => kt h p e s m args below meth c H locs cells slots ls hA hV hR hS hl hc hs hcr hsr) (fun h => kf h p e s m args below meth c H locs cells slots ls hA hV hR hS hl hc hs hcr hsr)
theorem e_icmp_gt {x y : Int32} {off : Int} {tgt : Nat} (hd : decode M.2.1 pc = .ok (.if_icmp .gt off, 3)) (ht : (pc : Int) + off = (tgt : Int)) (kt : y < x → EJ X M V rc rs tgt lv st w) (kf : ¬ y < x → EJ X M V rc rs (pc + 3) lv st w) : EJ X M V rc rs pc lv (vI y :: vI x :: st) w := by
  intro p e s m args below meth c H locs cells slots ls hA hV hR hS hl hc hs hcr hsr
  exact lv_icmp_gt hA.1 hA.2.1 hd ht (fun h => kt h p e s m args below meth c H locs cells slots ls hA hV hR hS hl hc hs hcr hsr) (fun h => kf h p e s m args below meth c H locs cells slots ls hA hV hR hS hl hc hs hcr hsr)
theorem e_if_le {x : Int32} {off : Int} {tgt : Nat} (hd : decode M.2.1 pc = .ok (.ifCond .le off, 3)) (ht : (pc : Int) + off = (tgt : Int)) (kt : x ≤ 0 → EJ X M V rc rs tgt lv st w) (kf : ¬ x ≤ 0 → EJ X M V rc rs (pc + 3) lv st w) : EJ X M V rc rs pc lv (vI x :: st) w := by
  intro p e s m args below meth c H locs cells slots ls hA hV hR hS hl hc hs hcr hsr
  exact lv_if_le hA.1 hA.2.1 hd ht (fun h => kt h p e s m args below meth c H locs cells slots ls hA hV hR hS hl hc hs hcr hsr) (fun h => kf h p e s m args below meth c H locs cells slots ls hA hV hR hS hl hc hs hcr hsr)
theorem e_icmp_le {x y : Int32} {off : Int} {tgt : Nat} (hd : decode M.2.1 pc = .ok (.if_icmp .le off, 3)) (ht : (pc : Int) + off = (tgt : Int)) (kt : x ≤ y → EJ X M V rc rs tgt lv st w) (kf : ¬ x ≤ y → EJ X M V rc rs (pc + 3) lv st w) : EJ X M V rc rs pc lv (vI y :: vI x :: st) w := by
  intro p e s m args below meth c H locs cells slots ls hA hV hR hS hl hc hs hcr hsr
  exact lv_icmp_le hA.1 hA.2.1 hd ht (fun h => kt h p e s m args below meth c H locs cells slots ls hA hV hR hS hl hc hs hcr hsr) (fun h => kf h p e s m args below meth c H locs cells slots ls hA hV hR hS hl hc hs hcr hsr)
theorem e_goto {off : Int} {tgt : Nat} (hd : decode M.2.1 pc = .ok (.goto off, 3)) (ht : (pc : Int) + off = (tgt : Int)) (kk : EJ X M V rc rs tgt lv st w) : EJ X M V rc rs pc lv st w := by
  intro p e s m args below meth c H locs cells slots ls hA hV hR hS hl hc hs hcr hsr
  exact lv_goto hA.1 hA.2.1 hd ht (kk p e s m args below meth c H locs cells slots ls hA hV hR hS hl hc hs hcr hsr)
theorem e_ifnull {a : Nat} {off : Int} {tgt : Nat} (hd : decode M.2.1 pc = .ok (.ifnull off, 3)) (ht : (pc : Int) + off = (tgt : Int)) (kt : a = 0 → EJ X M V rc rs tgt lv st w) (kf : ¬ a = 0 → EJ X M V rc rs (pc + 3) lv st w) : EJ X M V rc rs pc lv (vR a :: st) w := by
  intro p e s m args below meth c H locs cells slots ls hA hV hR hS hl hc hs hcr hsr
  by_cases h : a = 0
  · have h2 := kt h p e s m args below meth c H locs cells slots ls hA hV hR hS hl hc hs hcr hsr
    subst h
    exact lv_ifnullN hA.1 hA.2.1 hd ht h2
  · have e1 : tv (vR a) = .ref (a - 1) := rn_ne h
    rw [List.map_cons, e1]
    exact lv_ifnull hA.1 hA.2.1 hd (kf h p e s m args below meth c H locs cells slots ls hA hV hR hS hl hc hs hcr hsr)
theorem e_ifnonnull {a : Nat} {off : Int} {tgt : Nat} (hd : decode M.2.1 pc = .ok (.ifnonnull off, 3)) (ht : (pc : Int) + off = (tgt : Int)) (kt : ¬ a = 0 → EJ X M V rc rs tgt lv st w) (kf : a = 0 → EJ X M V rc rs (pc + 3) lv st w) : EJ X M V rc rs pc lv (vR a :: st) w := by
  intro p e s m args below meth c H locs cells slots ls hA hV hR hS hl hc hs hcr hsr
  by_cases h : a = 0
  · have h2 := kf h p e s m args below meth c H locs cells slots ls hA hV hR hS hl hc hs hcr hsr
    subst h
    exact lv_ifnonnullN hA.1 hA.2.1 hd h2
  · have e1 : tv (vR a) = .ref (a - 1) := rn_ne h
    rw [List.map_cons, e1]
    exact lv_ifnonnull hA.1 hA.2.1 hd ht (kt h p e s m args below meth c H locs cells slots ls hA hV hR hS hl hc hs hcr hsr)
theorem e_acmp_eq {a b : Nat} {off : Int} {tgt : Nat} (hd : decode M.2.1 pc = .ok (.if_acmp .eq off, 3)) (ht : (pc : Int) + off = (tgt : Int)) (kt : a = b → EJ X M V rc rs tgt lv st w) (kf : ¬ a = b → EJ X M V rc rs (pc + 3) lv st w) : EJ X M V rc rs pc lv (vR b :: vR a :: st) w := by
  intro p e s m args below meth c H locs cells slots ls hA hV hR hS hl hc hs hcr hsr
  exact lv_acmp_eq hA.1 hA.2.1 hd ht (fun h => kt (nz_inj.mp h) p e s m args below meth c H locs cells slots ls hA hV hR hS hl hc hs hcr hsr) (fun h => kf (fun q => h (nz_inj.mpr q)) p e s m args below meth c H locs cells slots ls hA hV hR hS hl hc hs hcr hsr)
theorem e_acmp_ne {a b : Nat} {off : Int} {tgt : Nat} (hd : decode M.2.1 pc = .ok (.if_acmp .ne off, 3)) (ht : (pc : Int) + off = (tgt : Int)) (kt : ¬ a = b → EJ X M V rc rs tgt lv st w) (kf : a = b → EJ X M V rc rs (pc + 3) lv st w) : EJ X M V rc rs pc lv (vR b :: vR a :: st) w := by
  intro p e s m args below meth c H locs cells slots ls hA hV hR hS hl hc hs hcr hsr
  exact lv_acmp_ne hA.1 hA.2.1 hd ht (fun h => kt (fun q => h (nz_inj.mpr q)) p e s m args below meth c H locs cells slots ls hA hV hR hS hl hc hs hcr hsr) (fun h => kf (nz_inj.mp (by simpa using h)) p e s m args below meth c H locs cells slots ls hA hV hR hS hl hc hs hcr hsr)
theorem e_tableOut {dflt lo hi : Int} {offs : Array Int} {len : Nat} {x : Int32} {tgt : Nat} (hd : decode M.2.1 pc = .ok (.tableswitch dflt lo hi offs, len)) (h : x.toInt < lo ∨ hi < x.toInt) (ht : (pc : Int) + dflt = (tgt : Int)) (kk : EJ X M V rc rs tgt lv st w) : EJ X M V rc rs pc lv (vI x :: st) w := by
  intro p e s m args below meth c H locs cells slots ls hA hV hR hS hl hc hs hcr hsr
  exact lv_tableOut hA.1 hA.2.1 hd h ht (kk p e s m args below meth c H locs cells slots ls hA hV hR hS hl hc hs hcr hsr)
theorem e_tableIn {dflt lo hi : Int} {offs : Array Int} {len : Nat} {x : Int32} {off : Int} {tgt : Nat} (hd : decode M.2.1 pc = .ok (.tableswitch dflt lo hi offs, len)) (h1 : ¬ x.toInt < lo) (h2 : ¬ hi < x.toInt) (ho : offs[(x.toInt - lo).toNat]? = some off) (ht : (pc : Int) + off = (tgt : Int)) (kk : EJ X M V rc rs tgt lv st w) : EJ X M V rc rs pc lv (vI x :: st) w := by
  intro p e s m args below meth c H locs cells slots ls hA hV hR hS hl hc hs hcr hsr
  exact lv_tableIn hA.1 hA.2.1 hd h1 h2 ho ht (kk p e s m args below meth c H locs cells slots ls hA hV hR hS hl hc hs hcr hsr)
end E0
