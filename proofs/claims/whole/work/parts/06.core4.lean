/-! ===== contracts, calls, ends ===== -/
theorem tbl_goodIn {ws : List Cond} (h : ∀ w ∈ ws, w ∈ tb) : GoodIn tb ws := fun w hw => ⟨h w hw, good_of_word (List.mem_filter.mp (h w hw)).2⟩
def PcW (X : Cx) (w : Wd) (U : State) : Prop := Rh X w U.heap ∧ va_S (Fr X) X.2.2.2 U.heap [] ∧ KK X U ∧ 0 < X.2.2.2.size
abbrev cdW (M : Me) : Cond := .code M.1 M.2.1 M.2.2.1 M.2.2.2
/-- a contract: from world w with these arguments the method comes to an end with Q -/
def Ct (X : Cx) (B : Bu) (M : Me) (as : List Av) (w : Wd) (Q : Option Av → Wd → Prop) : Prop :=
  Met X.1 M.1 (cdW M :: tb) (rmO B) (va_Pc (as.map tv) (PcW X w)) (Qw X Q) B.2.1 B.2.2 (Fr X)
def qI (A : Int32 → Wd → Prop) : Option Av → Wd → Prop := fun r w => ∃ x, r = some (vI x) ∧ A x w
def qJ (A : Int64 → Wd → Prop) : Option Av → Wd → Prop := fun r w => ∃ x, r = some (vJ x) ∧ A x w
def qR (A : Nat → Wd → Prop) : Option Av → Wd → Prop := fun r w => ∃ x, r = some (vR x) ∧ A x w
def qV (A : Wd → Prop) : Option Av → Wd → Prop := fun r w => r = none ∧ A w
theorem Ct.mono {X : Cx} {B : Bu} {M : Me} {as : List Av} {w : Wd} {Q Q' : Option Av → Wd → Prop} (h : Ct X B M as w Q) (hq : ∀ r w', Q r w' → Q' r w') : Ct X B M as w Q' := by
  unfold Ct Met MetFree at *
  intro p e h1 h2 h3 s m args below h4 h5 h6 h7
  obtain ⟨k, oc, a1, a2, a3, ⟨⟨r, w', b1, b2, b3⟩, hF⟩⟩ := h p e h1 h2 h3 s m args below h4 h5 h6 h7
  exact ⟨k, oc, a1, a2, a3, ⟨⟨r, w', b1, hq r w' b2, b3⟩, hF⟩⟩
theorem Ct.I {X : Cx} {B : Bu} {M : Me} {as : List Av} {w : Wd} {A A' : Int32 → Wd → Prop} (h : Ct X B M as w (qI A)) (hq : ∀ x w', A x w' → A' x w') : Ct X B M as w (qI A') := h.mono fun _ _ ⟨x, e, a⟩ => ⟨x, e, hq x _ a⟩
theorem Ct.J {X : Cx} {B : Bu} {M : Me} {as : List Av} {w : Wd} {A A' : Int64 → Wd → Prop} (h : Ct X B M as w (qJ A)) (hq : ∀ x w', A x w' → A' x w') : Ct X B M as w (qJ A') := h.mono fun _ _ ⟨x, e, a⟩ => ⟨x, e, hq x _ a⟩
theorem Ct.R {X : Cx} {B : Bu} {M : Me} {as : List Av} {w : Wd} {A A' : Nat → Wd → Prop} (h : Ct X B M as w (qR A)) (hq : ∀ x w', A x w' → A' x w') : Ct X B M as w (qR A') := h.mono fun _ _ ⟨x, e, a⟩ => ⟨x, e, hq x _ a⟩
theorem Ct.V {X : Cx} {B : Bu} {M : Me} {as : List Av} {w : Wd} {A A' : Wd → Prop} (h : Ct X B M as w (qV A)) (hq : ∀ w', A w' → A' w') : Ct X B M as w (qV A') := h.mono fun _ _ ⟨e, a⟩ => ⟨e, hq _ a⟩
def lvA (i : Nat) (as : List Av) : List (Nat × Av) := match as with
  | [] => []
  | v :: t => (i, v) :: lvA (i + cat v) t
theorem lvA_args (as : List Av) : ∀ i, (lvA i as).map t2 = lv_args i (as.map tv) := by
  induction as with
  | nil => intro i; rfl
  | cons v t ih =>
    intro i
    show t2 (i, v) :: (lvA (i + cat v) t).map t2 = (i, tv v) :: lv_args (if (tv v).category = 2 then i + 2 else i + 1) (t.map tv)
    rw [ih]
    have h : i + cat v = if (tv v).category = 2 then i + 2 else i + 1 := by
      rw [cat_tv, cat_J]
      cases isJ v <;> rfl
    rw [h]
    rfl
theorem lgsl_len (as : List Av) : (lg_sl (as.map tv)).length = (as.map cat).sum := by
  induction as with
  | nil => rfl
  | cons v t ih =>
    simp only [lg_sl, List.map_cons, List.flatMap_cons, List.length_append, List.sum_cons] at ih ⊢
    rw [ih, cat_tv, cat_J]
    cases isJ v <;> simp
theorem Ct.of {X : Cx} {B : Bu} {M : Me} {as : List Av} {w : Wd} {Q : Option Av → Wd → Prop} (hy : plainName M.1.cls = true) (hsz : (as.map cat).sum ≤ M.2.2.1) {lv : List (Nat × Av)} (hlv : lvA 0 as = lv) (h : EJ X M (vw X B Q) B.2.1 B.2.2 0 lv [] w) : Ct X B M as w Q := by
  refine Met.ofW (cc := M.2.1) (maxL := M.2.2.1) (ret := M.2.2.2) hy rfl ?_
  intro p e s m args below meth c s₁ Bd hml hv
  obtain ⟨rfl, hR, hS, hK, h0⟩ := hv
  have hts := atoms_spec (ws := cdW M :: tb) Bd.pre
  have hown : s.vm.findClass M.1.cls = some m.cls := findClass_of_methodNamed Bd.named
  have hin : meth.name = M.1.name := (name_of_methodNamed Bd.named Bd.method).1
  have hl := lv_entry (as.map tv) (n := M.2.2.1) (by rw [lgsl_len]; exact hsz)
  rw [lg_entry_eq]
  generalize (lg_sl (as.map tv) ++ List.replicate (M.2.2.1 - (lg_sl (as.map tv)).length) Slot.unset).toArray = ls at hl ⊢
  rw [← lvA_args, hlv] at hl
  exact h p e s m _ below meth c s.heap [] 0 0 ls ⟨Bd.exec, Bd.bytes, Bd.returns, hml, hown, fun w hw => hts w (List.mem_cons_of_mem _ hw), hK, Bd.notSynchronized, fun _ => hin, h0⟩ trivial hR hS hl (Nat.le_of_eq (Nat.zero_add _)) (Nat.le_of_eq (Nat.zero_add _)) (Nat.le_refl _) (Nat.le_refl _)
/-- what the tables say of a callee -/
def MK (M : Me) (n : Nat) : Prop := cdW M ∈ tb ∧ Cond.initialized M.1.cls ∈ tb ∧ M.1.cls ≠ "java/lang/invoke/MethodHandle" ∧ M.1.cls ≠ "java/lang/invoke/VarHandle" ∧ (parseMethodDescriptor M.1.desc).map (fun d => d.parameters.length) = some n
def MV (own : String) (idx : Nat) (M : Me) : Prop := Cond.methodLink own idx M.1 ∈ tb ∧ Cond.instanceMethod M.1 ∈ tb ∧ Cond.selects M.1.cls M.1 M.1 ∈ tb
def MS (own : String) (idx : Nat) (M : Me) : Prop := Cond.methodLink own idx M.1 ∈ tb ∧ Cond.static M.1 ∈ tb
def MI (own : String) (idx : Nat) (M : Me) : Prop := Cond.methodLink own idx M.1 ∈ tb ∧ Cond.instanceMethod M.1 ∈ tb
theorem PcW_blind (X : Cx) (w : Wd) (av : List Value) : FrameBlind (va_Pc av (PcW X w)) := by
  intro a U g mk h
  obtain ⟨h1, h2, h3, h4, h5⟩ := h
  exact ⟨h1, h2, h3, KK.moved (u := U) (U := U.calling g mk a) (Vm.Alike.refl U.vm) h4, h5⟩
theorem PcW_use {X : Cx} {w : Wd} {s U : State} {H : Heap} {locs : List Loc} (hR : Rh X w H) (hS : va_S (Fr X) X.2.2.2 H locs) (hK : KK X s) (h0 : 0 < X.2.2.2.size) (hU : U.heap = H) (hW : s.WarmedH U.vm) : PcW X w U := by
  subst hU
  exact ⟨hR, ⟨hS.1, hS.2.1, fun _ h => by cases h⟩, hK.moved hW.alike, h0⟩
theorem call_of {X : Cx} {M' : Me} {B' : Bu} {R : Room} {s : State} {args : Array Value} {own : String} {idx n : Nat} (hts : ∀ w ∈ tb, w.before args s = true) (hk : MK M' n) (hl : Cond.methodLink own idx M'.1 ∈ tb) (hR : B'.1 + 1 ≤ R.frames ∧ 8 + (M'.2.2.1 + 11) + 60 * B'.1 ≤ R.locals) : CallB R s args own idx M'.1 M'.2.1 M'.2.2.1 M'.2.2.2 (cdW M' :: tb) (rmO B') B'.2.1 B'.2.2 n :=
  callB_of n hts (tbl_goodIn (fun w h => (List.mem_cons.mp h).elim (fun e => by rw [e]; exact hk.1) id)) rfl rfl rfl (hts _ hk.2.1) (hts _ hl) ⟨hk.2.2.1, hk.2.2.2.1, hk.2.2.2.2⟩ hR
theorem run_on {X : Cx} {p : Program} {e : Env} {R : Room} {s : State} {m : MethodId} {args a : Array Value} {below : List Frame} {meth : Method} {c : Code} {H : Heap} {locs : List Loc} {cells slots mc ms pc : Nat} {ls : Array Slot} {st0 rest : List Value} {Q' : Option Av → Wd → Prop} {Q : State → Prop}
    (hr : va_Run p X.1 e R s m args below meth c H locs cells slots mc ms (F0 m pc ls st0) rest (Qw X Q' a) (Fr X)) (hS : va_S (Fr X) X.2.2.2 H locs)
    (kk : ∀ (r : Option Av) (w' : Wd) (H1 : Heap) (locs1 : List Loc), Q' r w' → Rh X w' H1 → va_S (Fr X) X.2.2.2 H1 locs1 → W p X.1 e R s m args below meth c H1 locs1 (cells + mc) (slots + ms) Q (F0 m (pc + 3) ls (r.toList.map tv ++ rest))) : W p X.1 e R s m args below meth c H locs cells slots Q (F0 m pc ls st0) := by
  intro T hT Y
  obtain ⟨v, st₀, t, T', L, h0, Y', hL, e1, e2, ⟨r, w', b1, b2, b3, b4⟩, st⟩ := hr T hT Y
  have hv : v = r.map tv := by simpa using b1
  have ht : v.toList = r.toList.map tv := by rw [hv]; cases r <;> rfl
  rw [ht] at st
  obtain ⟨t2, a1, c1⟩ := kk r w' T'.heap (locs ++ L) b2 (by rw [e1]; exact b3) ⟨by rw [e1]; exact b4.1, fun q g1 g2 => by rw [e1]; exact b4.2.1 q g1 g2, fun q hq => by
    rcases List.mem_append.mp hq with h | h
    · exact hS.2.2 q h
    · exact hL q h⟩ T' rfl Y'
  exact ⟨t2, st t2 a1, c1⟩
theorem cat_sum (st : List Av) : ((st.map tv).map fun v => v.category).sum = (st.map cat).sum := by
  induction st with
  | nil => rfl
  | cons v t ih => simp only [List.map_cons, List.sum_cons, cat_tv] at ih ⊢; rw [ih]
section E2
variable {X : Cx} {M : Me} {V : Vw} {rc rs pc : Nat} {lv : List (Nat × Av)} {st : List Av} {w : Wd}
theorem e_callV {idx a ci n : Nat} {M' : Me} {B' : Bu} {st0 : List Av} (as : List Av) {Q' : Option Av → Wd → Prop} (hd : decode M.2.1 pc = .ok (.invokevirtual idx, 3)) (hm : MV M.1.cls idx M') (hk : MK M' n) (hc12 : ci < 12) (hcl : M'.1.cls = cR ci) (ha : wK w a = ci + 1) (hst : st0 = as.reverse ++ vR a :: st) (hn : as.length = n) (hrm : (st.map cat).sum ≤ 8) (hfr : B'.1 + 1 ≤ V.1.frames ∧ 8 + (M'.2.2.1 + 11) + 60 * B'.1 ≤ V.1.locals) {rc' rs' : Nat} (h1 : rc = rc' + B'.2.1) (h2 : rs = rs' + B'.2.2)
    (hct : Ct X B' M' (vR a :: as) w Q') (kk : ∀ (r : Option Av) (w' : Wd), Q' r w' → EJ X M V rc' rs' (pc + 3) lv (r.toList ++ st) w') : EJ X M V rc rs pc lv st0 w := by
  intro p e s m args below meth c H locs cells slots ls hA hV hR hS hl hc hs hcr hsr
  subst hst h1 h2
  obtain ⟨L, q0, hP, hD, hL, haL, hq⟩ := hR.obj hc12 ha
  have hne : a ≠ 0 := hR.ne hA.2.2.2.2.2.2.2.2.2 (by omega)
  have e1 : tv (vR a) = .ref (a - 1) := rn_ne hne
  have hts := hA.2.2.2.2.2.1
  refine run_on (a := (Value.ref (a - 1) :: as.map tv).toArray) (rest := st.map tv) (Q' := Q') (mc := B'.2.1) (ms := B'.2.2) (va_runV (C := M'.1.cls) (As := as.map tv) ⟨hA.1, hA.2.1, hA.2.2.2.1, hA.2.2.2.2.1, hts⟩ hct ⟨call_of (X := X) hts hk hm.1 hfr, hts _ hm.2.1, hts _ hm.2.2⟩ ⟨PcW_blind X w _, by rw [hcl]; exact va_recv hA.2.2.2.2.2.2.1.1 hP (cls_get ci hc12) hq, fun U hU hW => ⟨by rw [List.map_cons, e1], PcW_use hR hS hA.2.2.2.2.2.2.1 hA.2.2.2.2.2.2.2.2.2 hU hW⟩⟩ rfl (by rw [List.length_map]; exact hn) hl.1 (by rw [List.map_append, List.map_reverse, List.map_cons, e1]) (lv_room (by rw [cat_sum]; exact hrm)) hd ⟨by omega, by omega⟩) hS (fun r w' H1 locs1 hq1 hR1 hS1 => ?_)
  have h5 := kk r w' hq1 p e s m args below meth c H1 locs1 (cells + B'.2.1) (slots + B'.2.2) ls hA hV hR1 hS1 hl (by omega) (by omega) hcr hsr
  rw [List.map_append] at h5
  exact h5
theorem e_callS {idx n : Nat} {M' : Me} {B' : Bu} {st0 : List Av} (as : List Av) {Q' : Option Av → Wd → Prop} (hd : decode M.2.1 pc = .ok (.invokestatic idx, 3)) (hm : MS M.1.cls idx M') (hk : MK M' n) (hst : st0 = as.reverse ++ st) (hn : as.length = n) (hrm : (st.map cat).sum ≤ 8) (hfr : B'.1 + 1 ≤ V.1.frames ∧ 8 + (M'.2.2.1 + 11) + 60 * B'.1 ≤ V.1.locals) {rc' rs' : Nat} (h1 : rc = rc' + B'.2.1) (h2 : rs = rs' + B'.2.2)
    (hct : Ct X B' M' as w Q') (kk : ∀ (r : Option Av) (w' : Wd), Q' r w' → EJ X M V rc' rs' (pc + 3) lv (r.toList ++ st) w') : EJ X M V rc rs pc lv st0 w := by
  intro p e s m args below meth c H locs cells slots ls hA hV hR hS hl hc hs hcr hsr
  subst hst h1 h2
  have hts := hA.2.2.2.2.2.1
  refine run_on (a := (as.map tv).toArray) (rest := st.map tv) (Q' := Q') (mc := B'.2.1) (ms := B'.2.2) (va_runS (As := as.map tv) ⟨hA.1, hA.2.1, hA.2.2.2.1, hA.2.2.2.2.1, hts⟩ hct ⟨call_of (X := X) hts hk hm.1 hfr, hts _ hm.2⟩ ⟨PcW_blind X w _, fun U hU hW => ⟨rfl, PcW_use hR hS hA.2.2.2.2.2.2.1 hA.2.2.2.2.2.2.2.2.2 hU hW⟩⟩ rfl (by rw [List.length_map]; exact hn) hl.1 (by rw [List.map_append, List.map_reverse]) (lv_room (by rw [cat_sum]; exact hrm)) hd ⟨by omega, by omega⟩) hS (fun r w' H1 locs1 hq1 hR1 hS1 => ?_)
  have h5 := kk r w' hq1 p e s m args below meth c H1 locs1 (cells + B'.2.1) (slots + B'.2.2) ls hA hV hR1 hS1 hl (by omega) (by omega) hcr hsr
  rw [List.map_append] at h5
  exact h5
theorem e_callI {idx a n : Nat} {M' : Me} {B' : Bu} {st0 : List Av} (as : List Av) {Q' : Option Av → Wd → Prop} (hd : decode M.2.1 pc = .ok (.invokespecial idx, 3)) (hm : MI M.1.cls idx M') (hk : MK M' n) (hnm : M'.1.name = "<init>") (hret : M'.2.2.2 = none) (ha : wK w a ≠ 0) (hst : st0 = as.reverse ++ vR a :: st) (hn : as.length = n) (hrm : (st.map cat).sum ≤ 8) (hfr : B'.1 + 1 ≤ V.1.frames ∧ 8 + (M'.2.2.1 + 11) + 60 * B'.1 ≤ V.1.locals) {rc' rs' : Nat} (h1 : rc = rc' + B'.2.1) (h2 : rs = rs' + B'.2.2)
    (hct : Ct X B' M' (vR a :: as) w Q') (kk : ∀ (r : Option Av) (w' : Wd), Q' r w' → EJ X M V rc' rs' (pc + 3) lv (r.toList ++ st) w') : EJ X M V rc rs pc lv st0 w := by
  intro p e s m args below meth c H locs cells slots ls hA hV hR hS hl hc hs hcr hsr
  subst hst h1 h2
  have hne : a ≠ 0 := hR.ne hA.2.2.2.2.2.2.2.2.2 ha
  have e1 : tv (vR a) = .ref (a - 1) := rn_ne hne
  have hts := hA.2.2.2.2.2.1
  have cb := call_of (X := X) (B' := B') (R := V.1) hts hk hm.1 hfr
  rw [hret] at cb
  refine run_on (a := (Value.ref (a - 1) :: as.map tv).toArray) (rest := st.map tv) (Q' := Q') (mc := B'.2.1) (ms := B'.2.2) (va_runI (As := as.map tv) (b := a - 1) ⟨hA.1, hA.2.1, hA.2.2.2.1, hA.2.2.2.2.1, hts⟩ hct ⟨cb, hnm, hts _ hm.2⟩ ⟨PcW_blind X w _, fun U hU hW => ⟨by rw [List.map_cons, e1], PcW_use hR hS hA.2.2.2.2.2.2.1 hA.2.2.2.2.2.2.2.2.2 hU hW⟩⟩ rfl (by rw [List.length_map]; exact hn) hl.1 (by rw [List.map_append, List.map_reverse, List.map_cons, e1]) (lv_room (by rw [cat_sum]; exact hrm)) hd ⟨by omega, by omega⟩) hS (fun r w' H1 locs1 hq1 hR1 hS1 => ?_)
  have h5 := kk r w' hq1 p e s m args below meth c H1 locs1 (cells + B'.2.1) (slots + B'.2.2) ls hA hV hR1 hS1 hl (by omega) (by omega) hcr hsr
  rw [List.map_append] at h5
  exact h5

theorem e_callVi {idx a ci n : Nat} {M' : Me} {B' : Bu} {st0 : List Av} (as : List Av) {A : Int32 → Wd → Prop} (hd : decode M.2.1 pc = .ok (.invokevirtual idx, 3)) (hm : MV M.1.cls idx M') (hk : MK M' n) (hc12 : ci < 12) (hcl : M'.1.cls = cR ci) (ha : wK w a = ci + 1) (hst : st0 = as.reverse ++ vR a :: st) (hn : as.length = n) (hrm : (st.map cat).sum ≤ 8) (hfr : B'.1 + 1 ≤ V.1.frames ∧ 8 + (M'.2.2.1 + 11) + 60 * B'.1 ≤ V.1.locals) {rc' rs' : Nat} (h1 : rc = rc' + B'.2.1) (h2 : rs = rs' + B'.2.2) (hct : Ct X B' M' (vR a :: as) w (qI A)) (kk : ∀ (x : Int32) (w' : Wd), A x w' → EJ X M V rc' rs' (pc + 3) lv (vI x :: st) w') : EJ X M V rc rs pc lv st0 w :=
  e_callV as hd hm hk hc12 hcl ha hst hn hrm hfr h1 h2 hct (fun r w' hq => by obtain ⟨x, rfl, h⟩ := hq; exact kk x w' h)
theorem e_callVj {idx a ci n : Nat} {M' : Me} {B' : Bu} {st0 : List Av} (as : List Av) {A : Int64 → Wd → Prop} (hd : decode M.2.1 pc = .ok (.invokevirtual idx, 3)) (hm : MV M.1.cls idx M') (hk : MK M' n) (hc12 : ci < 12) (hcl : M'.1.cls = cR ci) (ha : wK w a = ci + 1) (hst : st0 = as.reverse ++ vR a :: st) (hn : as.length = n) (hrm : (st.map cat).sum ≤ 8) (hfr : B'.1 + 1 ≤ V.1.frames ∧ 8 + (M'.2.2.1 + 11) + 60 * B'.1 ≤ V.1.locals) {rc' rs' : Nat} (h1 : rc = rc' + B'.2.1) (h2 : rs = rs' + B'.2.2) (hct : Ct X B' M' (vR a :: as) w (qJ A)) (kk : ∀ (x : Int64) (w' : Wd), A x w' → EJ X M V rc' rs' (pc + 3) lv (vJ x :: st) w') : EJ X M V rc rs pc lv st0 w :=
  e_callV as hd hm hk hc12 hcl ha hst hn hrm hfr h1 h2 hct (fun r w' hq => by obtain ⟨x, rfl, h⟩ := hq; exact kk x w' h)
theorem e_callVr {idx a ci n : Nat} {M' : Me} {B' : Bu} {st0 : List Av} (as : List Av) {A : Nat → Wd → Prop} (hd : decode M.2.1 pc = .ok (.invokevirtual idx, 3)) (hm : MV M.1.cls idx M') (hk : MK M' n) (hc12 : ci < 12) (hcl : M'.1.cls = cR ci) (ha : wK w a = ci + 1) (hst : st0 = as.reverse ++ vR a :: st) (hn : as.length = n) (hrm : (st.map cat).sum ≤ 8) (hfr : B'.1 + 1 ≤ V.1.frames ∧ 8 + (M'.2.2.1 + 11) + 60 * B'.1 ≤ V.1.locals) {rc' rs' : Nat} (h1 : rc = rc' + B'.2.1) (h2 : rs = rs' + B'.2.2) (hct : Ct X B' M' (vR a :: as) w (qR A)) (kk : ∀ (x : Nat) (w' : Wd), A x w' → EJ X M V rc' rs' (pc + 3) lv (vR x :: st) w') : EJ X M V rc rs pc lv st0 w :=
  e_callV as hd hm hk hc12 hcl ha hst hn hrm hfr h1 h2 hct (fun r w' hq => by obtain ⟨x, rfl, h⟩ := hq; exact kk x w' h)
theorem e_callVv {idx a ci n : Nat} {M' : Me} {B' : Bu} {st0 : List Av} (as : List Av) {A : Wd → Prop} (hd : decode M.2.1 pc = .ok (.invokevirtual idx, 3)) (hm : MV M.1.cls idx M') (hk : MK M' n) (hc12 : ci < 12) (hcl : M'.1.cls = cR ci) (ha : wK w a = ci + 1) (hst : st0 = as.reverse ++ vR a :: st) (hn : as.length = n) (hrm : (st.map cat).sum ≤ 8) (hfr : B'.1 + 1 ≤ V.1.frames ∧ 8 + (M'.2.2.1 + 11) + 60 * B'.1 ≤ V.1.locals) {rc' rs' : Nat} (h1 : rc = rc' + B'.2.1) (h2 : rs = rs' + B'.2.2) (hct : Ct X B' M' (vR a :: as) w (qV A)) (kk : ∀ w' : Wd, A w' → EJ X M V rc' rs' (pc + 3) lv st w') : EJ X M V rc rs pc lv st0 w :=
  e_callV as hd hm hk hc12 hcl ha hst hn hrm hfr h1 h2 hct (fun r w' hq => by obtain ⟨rfl, h⟩ := hq; exact kk w' h)
theorem e_callSi {idx n : Nat} {M' : Me} {B' : Bu} {st0 : List Av} (as : List Av) {A : Int32 → Wd → Prop} (hd : decode M.2.1 pc = .ok (.invokestatic idx, 3)) (hm : MS M.1.cls idx M') (hk : MK M' n) (hst : st0 = as.reverse ++ st) (hn : as.length = n) (hrm : (st.map cat).sum ≤ 8) (hfr : B'.1 + 1 ≤ V.1.frames ∧ 8 + (M'.2.2.1 + 11) + 60 * B'.1 ≤ V.1.locals) {rc' rs' : Nat} (h1 : rc = rc' + B'.2.1) (h2 : rs = rs' + B'.2.2) (hct : Ct X B' M' (as) w (qI A)) (kk : ∀ (x : Int32) (w' : Wd), A x w' → EJ X M V rc' rs' (pc + 3) lv (vI x :: st) w') : EJ X M V rc rs pc lv st0 w :=
  e_callS as hd hm hk hst hn hrm hfr h1 h2 hct (fun r w' hq => by obtain ⟨x, rfl, h⟩ := hq; exact kk x w' h)
theorem e_callSj {idx n : Nat} {M' : Me} {B' : Bu} {st0 : List Av} (as : List Av) {A : Int64 → Wd → Prop} (hd : decode M.2.1 pc = .ok (.invokestatic idx, 3)) (hm : MS M.1.cls idx M') (hk : MK M' n) (hst : st0 = as.reverse ++ st) (hn : as.length = n) (hrm : (st.map cat).sum ≤ 8) (hfr : B'.1 + 1 ≤ V.1.frames ∧ 8 + (M'.2.2.1 + 11) + 60 * B'.1 ≤ V.1.locals) {rc' rs' : Nat} (h1 : rc = rc' + B'.2.1) (h2 : rs = rs' + B'.2.2) (hct : Ct X B' M' (as) w (qJ A)) (kk : ∀ (x : Int64) (w' : Wd), A x w' → EJ X M V rc' rs' (pc + 3) lv (vJ x :: st) w') : EJ X M V rc rs pc lv st0 w :=
  e_callS as hd hm hk hst hn hrm hfr h1 h2 hct (fun r w' hq => by obtain ⟨x, rfl, h⟩ := hq; exact kk x w' h)
theorem e_callSr {idx n : Nat} {M' : Me} {B' : Bu} {st0 : List Av} (as : List Av) {A : Nat → Wd → Prop} (hd : decode M.2.1 pc = .ok (.invokestatic idx, 3)) (hm : MS M.1.cls idx M') (hk : MK M' n) (hst : st0 = as.reverse ++ st) (hn : as.length = n) (hrm : (st.map cat).sum ≤ 8) (hfr : B'.1 + 1 ≤ V.1.frames ∧ 8 + (M'.2.2.1 + 11) + 60 * B'.1 ≤ V.1.locals) {rc' rs' : Nat} (h1 : rc = rc' + B'.2.1) (h2 : rs = rs' + B'.2.2) (hct : Ct X B' M' (as) w (qR A)) (kk : ∀ (x : Nat) (w' : Wd), A x w' → EJ X M V rc' rs' (pc + 3) lv (vR x :: st) w') : EJ X M V rc rs pc lv st0 w :=
  e_callS as hd hm hk hst hn hrm hfr h1 h2 hct (fun r w' hq => by obtain ⟨x, rfl, h⟩ := hq; exact kk x w' h)
theorem e_callSv {idx n : Nat} {M' : Me} {B' : Bu} {st0 : List Av} (as : List Av) {A : Wd → Prop} (hd : decode M.2.1 pc = .ok (.invokestatic idx, 3)) (hm : MS M.1.cls idx M') (hk : MK M' n) (hst : st0 = as.reverse ++ st) (hn : as.length = n) (hrm : (st.map cat).sum ≤ 8) (hfr : B'.1 + 1 ≤ V.1.frames ∧ 8 + (M'.2.2.1 + 11) + 60 * B'.1 ≤ V.1.locals) {rc' rs' : Nat} (h1 : rc = rc' + B'.2.1) (h2 : rs = rs' + B'.2.2) (hct : Ct X B' M' (as) w (qV A)) (kk : ∀ w' : Wd, A w' → EJ X M V rc' rs' (pc + 3) lv st w') : EJ X M V rc rs pc lv st0 w :=
  e_callS as hd hm hk hst hn hrm hfr h1 h2 hct (fun r w' hq => by obtain ⟨rfl, h⟩ := hq; exact kk w' h)
theorem e_callIv {idx a n : Nat} {M' : Me} {B' : Bu} {st0 : List Av} (as : List Av) {A : Wd → Prop} (hd : decode M.2.1 pc = .ok (.invokespecial idx, 3)) (hm : MI M.1.cls idx M') (hk : MK M' n) (hnm : M'.1.name = "<init>") (hret : M'.2.2.2 = none) (ha : wK w a ≠ 0) (hst : st0 = as.reverse ++ vR a :: st) (hn : as.length = n) (hrm : (st.map cat).sum ≤ 8) (hfr : B'.1 + 1 ≤ V.1.frames ∧ 8 + (M'.2.2.1 + 11) + 60 * B'.1 ≤ V.1.locals) {rc' rs' : Nat} (h1 : rc = rc' + B'.2.1) (h2 : rs = rs' + B'.2.2) (hct : Ct X B' M' (vR a :: as) w (qV A)) (kk : ∀ w' : Wd, A w' → EJ X M V rc' rs' (pc + 3) lv st w') : EJ X M V rc rs pc lv st0 w :=
  e_callI as hd hm hk hnm hret ha hst hn hrm hfr h1 h2 hct (fun r w' hq => by obtain ⟨rfl, h⟩ := hq; exact kk w' h)
theorem e_mmin {idx : Nat} {x y : Int32} (hd : decode M.2.1 pc = .ok (.invokestatic idx, 3)) (hm : Cond.methodLink M.1.cls idx Lib.Math.min.name ∈ tb) (hrm : (st.map cat).sum + 13 ≤ V.1.locals) (hfr : 1 ≤ V.1.frames) (kk : EJ X M V rc rs (pc + 3) lv (vI (if y < x then y else x) :: st) w) : EJ X M V rc rs pc lv (vI y :: vI x :: st) w := by
  intro p e s m args below meth c H locs cells slots ls hA hV hR hS hl hc hs hcr hsr
  have hts := hA.2.2.2.2.2.1
  exact va_mmin hA.1 hA.2.1 (hA.2.2.2.1.trans hl.1.symm) hA.2.2.2.2.1 (hts _ hm) (hts _ (tb_of (by decide +kernel) rfl)) (hts _ (tb_of (by decide +kernel) rfl)) (hts _ (tb_of (by decide +kernel) rfl)) hfr (by rw [cat_sum]; exact hrm) (by omega) (by omega) hd (kk p e s m args below meth c H locs cells slots ls hA hV hR hS hl hc hs hcr hsr)
theorem e_mmax {idx : Nat} {x y : Int32} (hd : decode M.2.1 pc = .ok (.invokestatic idx, 3)) (hm : Cond.methodLink M.1.cls idx Lib.Math.max.name ∈ tb) (hrm : (st.map cat).sum + 13 ≤ V.1.locals) (hfr : 1 ≤ V.1.frames) (kk : EJ X M V rc rs (pc + 3) lv (vI (if x < y then y else x) :: st) w) : EJ X M V rc rs pc lv (vI y :: vI x :: st) w := by
  intro p e s m args below meth c H locs cells slots ls hA hV hR hS hl hc hs hcr hsr
  have hts := hA.2.2.2.2.2.1
  exact va_mmax hA.1 hA.2.1 (hA.2.2.2.1.trans hl.1.symm) hA.2.2.2.2.1 (hts _ hm) (hts _ (tb_of (by decide +kernel) rfl)) (hts _ (tb_of (by decide +kernel) rfl)) (hts _ (tb_of (by decide +kernel) rfl)) hfr (by rw [cat_sum]; exact hrm) (by omega) (by omega) hd (kk p e s m args below meth c H locs cells slots ls hA hV hR hS hl hc hs hcr hsr)
theorem e_mminJ {idx : Nat} {x y : Int64} (hd : decode M.2.1 pc = .ok (.invokestatic idx, 3)) (hm : Cond.methodLink M.1.cls idx Lib.MathLoose.min_long.x ∈ tb) (hrm : (st.map cat).sum + 15 ≤ V.1.locals) (hfr : 1 ≤ V.1.frames) (kk : EJ X M V rc rs (pc + 3) lv (vJ (if y < x then y else x) :: st) w) : EJ X M V rc rs pc lv (vJ y :: vJ x :: st) w := by
  intro p e s m args below meth c H locs cells slots ls hA hV hR hS hl hc hs hcr hsr
  have hts := hA.2.2.2.2.2.1
  exact va_mmin_long hA.1 hA.2.1 (hA.2.2.2.1.trans hl.1.symm) hA.2.2.2.2.1 (hts _ hm) (hts _ (tb_of (by decide +kernel) rfl)) (hts _ (tb_of (by decide +kernel) rfl)) (hts _ (tb_of (by decide +kernel) rfl)) hfr (by rw [cat_sum]; exact hrm) (by omega) (by omega) hd (kk p e s m args below meth c H locs cells slots ls hA hV hR hS hl hc hs hcr hsr)
theorem e_objInit {idx a : Nat} (hd : decode M.2.1 pc = .ok (.invokespecial idx, 3)) (hm : Cond.methodLink M.1.cls idx Lib.objectInit ∈ tb) (ha : wK w a ≠ 0) (hrm : (st.map cat).sum ≤ 8) (hfr : 1 ≤ V.1.frames) (hlo : 60 ≤ V.1.locals) (kk : EJ X M V rc rs (pc + 3) lv st w) : EJ X M V rc rs pc lv (vR a :: st) w := by
  intro p e s m args below meth c H locs cells slots ls hA hV hR hS hl hc hs hcr hsr
  have hts := hA.2.2.2.2.2.1
  have hne : a ≠ 0 := hR.ne hA.2.2.2.2.2.2.2.2.2 ha
  have e1 : tv (vR a) = .ref (a - 1) := rn_ne hne
  rw [List.map_cons, e1]
  refine W.objInit hA.1 hA.2.1 hA.2.2.2.2.1 (hts _ hm) (hts _ (tb_of (by decide +kernel) rfl)) (hts _ (tb_of (by decide +kernel) rfl)) rfl (hl.1.trans hA.2.2.2.1.symm) rfl hd hfr ?_ (kk p e s m args below meth c H locs cells slots ls hA hV hR hS hl hc hs hcr hsr)
  have h8 : 2 * (F0 m pc ls (Value.ref (a - 1) :: st.map tv)).monitorRoom + ((st.map tv).map fun v => v.category).sum ≤ 8 := lv_room (by rw [cat_sum]; exact hrm)
  omega
end E2
section E3
variable {X : Cx} {M : Me} {B : Bu} {Q : Option Av → Wd → Prop} {rc rs pc : Nat} {lv : List (Nat × Av)} {w : Wd}
theorem ret_q {X : Cx} {Q : Option Av → Wd → Prop} {w : Wd} {H : Heap} {locs : List Loc} {args : Array Value} {s : State} (r : Option Av) (hq : Q r w) (hR : Rh X w H) (hS : va_S (Fr X) X.2.2.2 H locs) : ∀ t : State, t.heap = H → s.WarmedH t.vm → Qw X Q args s (.returned (r.map tv)) t := by
  intro t ht _
  subst ht
  exact ⟨r, w, rfl, hq, hR, hS.1, hS.2.1, fun _ h => by cases h⟩
theorem e_ireturn {x : Int32} (hd : decode M.2.1 pc = .ok (.ireturn, 1)) (hr : M.2.2.2 = some .int) (hq : Q (some (vI x)) w) : EJ X M (vw X B Q) rc rs pc lv [vI x] w := by
  intro p e s m args below meth c H locs cells slots ls hA hV hR hS hl hc hs hcr hsr
  refine W.widen (k := B.2.1) (n := B.2.2) (Nat.le_trans (Nat.le_add_right _ _) hc) (Nat.le_trans (Nat.le_add_right _ _) hs) ?_
  exact W.iret hA.1 hA.2.1 (hA.2.2.1.trans hr) (ret_q (some (vI x)) hq hR hS) hS.2.2 hd (hlocks := hA.2.2.2.2.2.2.2.1)
theorem e_zreturn {x : Int32} (hd : decode M.2.1 pc = .ok (.ireturn, 1)) (hr : M.2.2.2 = some .boolean) (hx : x = 0 ∨ x = 1) (hq : Q (some (vI x)) w) : EJ X M (vw X B Q) rc rs pc lv [vI x] w := by
  intro p e s m args below meth c H locs cells slots ls hA hV hR hS hl hc hs hcr hsr
  refine W.widen (k := B.2.1) (n := B.2.2) (Nat.le_trans (Nat.le_add_right _ _) hc) (Nat.le_trans (Nat.le_add_right _ _) hs) ?_
  exact W.zret hA.1 hA.2.1 (hA.2.2.1.trans hr) (by rcases hx with rfl | rfl <;> rfl) (ret_q (some (vI x)) hq hR hS) hS.2.2 hd (hlocks := hA.2.2.2.2.2.2.2.1)
theorem e_lreturn {x : Int64} (hd : decode M.2.1 pc = .ok (.lreturn, 1)) (hr : M.2.2.2 = some .long) (hq : Q (some (vJ x)) w) : EJ X M (vw X B Q) rc rs pc lv [vJ x] w := by
  intro p e s m args below meth c H locs cells slots ls hA hV hR hS hl hc hs hcr hsr
  refine W.widen (k := B.2.1) (n := B.2.2) (Nat.le_trans (Nat.le_add_right _ _) hc) (Nat.le_trans (Nat.le_add_right _ _) hs) ?_
  exact W.lret hA.1 hA.2.1 (hA.2.2.1.trans hr) (ret_q (some (vJ x)) hq hR hS) hS.2.2 hd (hlocks := hA.2.2.2.2.2.2.2.1)
theorem e_areturn {x : Nat} {cn : String} (hd : decode M.2.1 pc = .ok (.areturn, 1)) (hr : M.2.2.2 = some (.object cn)) (hq : Q (some (vR x)) w) : EJ X M (vw X B Q) rc rs pc lv [vR x] w := by
  intro p e s m args below meth c H locs cells slots ls hA hV hR hS hl hc hs hcr hsr
  refine W.widen (k := B.2.1) (n := B.2.2) (Nat.le_trans (Nat.le_add_right _ _) hc) (Nat.le_trans (Nat.le_add_right _ _) hs) ?_
  refine W.aret hA.1 hA.2.1 (hA.2.2.1.trans hr) (Or.inl ⟨cn, rfl⟩) ?_ (ret_q (some (vR x)) hq hR hS) hS.2.2 hd (hlocks := hA.2.2.2.2.2.2.2.1)
  by_cases h : x = 0
  · subst h; exact Or.inl rfl
  · exact Or.inr ⟨x - 1, rn_ne h⟩
theorem e_vreturn (hd : decode M.2.1 pc = .ok (.return_, 1)) (hr : M.2.2.2 = none) (hq : Q none w) : EJ X M (vw X B Q) rc rs pc lv [] w := by
  intro p e s m args below meth c H locs cells slots ls hA hV hR hS hl hc hs hcr hsr
  refine W.widen (k := B.2.1) (n := B.2.2) (Nat.le_trans (Nat.le_add_right _ _) hc) (Nat.le_trans (Nat.le_add_right _ _) hs) ?_
  exact W.vret hA.1 hA.2.1 (hA.2.2.1.trans hr) (ret_q none hq hR hS) hS.2.2 hd (hlocks := hA.2.2.2.2.2.2.2.1)
end E3
