/-! ===== the world by maps, and its tie to the kit's pools ===== -/
abbrev cls : List vw_C := [(RX0, TX0, 2), (RX1, TX1, 3), (RX2, TX2, 13), (RX3, TX3, 5), (RX4, TX4, 2), (RX5, TX5, 7), (RX6, TX6, 5), (RX7, TX7, 2), (RX8, TX8, 8), (RX9, TX9, 17), (RX10, TX10, 14), (RX11, TX11, 65)]
def cR (ci : Nat) : String := match ci with
  | 0 => RX0 | 1 => RX1 | 2 => RX2 | 3 => RX3 | 4 => RX4 | 5 => RX5 | 6 => RX6 | 7 => RX7 | 8 => RX8 | 9 => RX9 | 10 => RX10 | _ => RX11
def cT (ci : Nat) : u_T := match ci with
  | 0 => TX0 | 1 => TX1 | 2 => TX2 | 3 => TX3 | 4 => TX4 | 5 => TX5 | 6 => TX6 | 7 => TX7 | 8 => TX8 | 9 => TX9 | 10 => TX10 | _ => TX11
def cY (ci : Nat) : Nat → FieldType := match ci with
  | 0 => tyX0 | 1 => tyX1 | 2 => tyX2 | 3 => tyX3 | 4 => tyX4 | 5 => tyX5 | 6 => tyX6 | 7 => tyX7 | 8 => tyX8 | 9 => tyX9 | 10 => tyX10 | _ => tyX11
def cN (ci : Nat) : Nat := match ci with
  | 0 => 2 | 1 => 3 | 2 => 13 | 3 => 5 | 4 => 2 | 5 => 7 | 6 => 5 | 7 => 2 | 8 => 8 | 9 => 17 | 10 => 14 | _ => 65
theorem cls_get : ∀ ci, ci < 12 → cls[ci]? = some (cR ci, cT ci, cN ci) := by
  intro ci h
  match ci, h with
  | 0, _ => rfl | 1, _ => rfl | 2, _ => rfl | 3, _ => rfl | 4, _ => rfl | 5, _ => rfl | 6, _ => rfl | 7, _ => rfl | 8, _ => rfl | 9, _ => rfl | 10, _ => rfl | 11, _ => rfl
  | n + 12, h => omega
theorem cls_nm : ∀ ci, ci < 12 → ∀ a, a < cN ci → ∀ b, b < cN ci → a ≠ b → (cT ci a).2.1 ≠ (cT ci b).2.1 := by
  intro ci h
  match ci, h with
  | 0, _ => exact nmX0 | 1, _ => exact nmX1 | 2, _ => exact nmX2 | 3, _ => exact nmX3 | 4, _ => exact nmX4 | 5, _ => exact nmX5 | 6, _ => exact nmX6 | 7, _ => exact nmX7 | 8, _ => exact nmX8 | 9, _ => exact nmX9 | 10, _ => exact nmX10 | 11, _ => exact nmX11
  | n + 12, h => omega
theorem cls_ty : ∀ ci, ci < 12 → ∀ k, k < cN ci → parseFieldDescriptor (cT ci k).2.2.1 = some (cY ci k) := by
  intro ci h
  match ci, h with
  | 0, _ => exact tyX0_ok | 1, _ => exact tyX1_ok | 2, _ => exact tyX2_ok | 3, _ => exact tyX3_ok | 4, _ => exact tyX4_ok | 5, _ => exact tyX5_ok | 6, _ => exact tyX6_ok | 7, _ => exact tyX7_ok | 8, _ => exact tyX8_ok | 9, _ => exact tyX9_ok | 10, _ => exact tyX10_ok | 11, _ => exact tyX11_ok
  | n + 12, h => omega
set_option maxRecDepth 100000 in
theorem cls_in0 : ∀ ci, ci < 12 → ∀ w ∈ u_ws (cR ci) (cT ci) (cN ci), w ∈ lw_tbl := by
  intro ci h
  match ci, h with
  | 0, _ => decide +kernel
  | 1, _ => decide +kernel
  | 2, _ => decide +kernel
  | 3, _ => decide +kernel
  | 4, _ => decide +kernel
  | 5, _ => decide +kernel
  | 6, _ => decide +kernel
  | 7, _ => decide +kernel
  | 8, _ => decide +kernel
  | 9, _ => decide +kernel
  | 10, _ => decide +kernel
  | 11, _ => decide +kernel
  | n + 12, h => omega
/-- the words that pass on to a callee as they are -/
def tb : List Cond := lw_tbl.filter goodWord
theorem tb_of {w : Cond} (h : w ∈ lw_tbl) (hg : goodWord w = true) : w ∈ tb := List.mem_filter.mpr ⟨h, hg⟩
theorem tb_at {w : Cond} (i : Nat) (h : tables_1[i]? = some w) (hg : goodWord w = true) : w ∈ tb := tb_of (List.mem_append_right _ (List.mem_of_getElem? h)) hg
theorem tb_sel {w : Cond} (i : Nat) (h : (k2_sels lw_privs)[i]? = some w) (hg : goodWord w = true) : w ∈ tb := tb_of (List.mem_append_left _ (List.mem_of_getElem? h)) hg
theorem cls_inG : ∀ ci, ci < 12 → (u_ws (cR ci) (cT ci) (cN ci)).all goodWord = true := by
  intro ci h
  match ci, h with
  | 0, _ => decide +kernel
  | 1, _ => decide +kernel
  | 2, _ => decide +kernel
  | 3, _ => decide +kernel
  | 4, _ => decide +kernel
  | 5, _ => decide +kernel
  | 6, _ => decide +kernel
  | 7, _ => decide +kernel
  | 8, _ => decide +kernel
  | 9, _ => decide +kernel
  | 10, _ => decide +kernel
  | 11, _ => decide +kernel
  | n + 12, h => omega
theorem cls_in : ∀ ci, ci < 12 → ∀ w ∈ u_ws (cR ci) (cT ci) (cN ci), w ∈ tb := fun ci h w hw => tb_of (cls_in0 ci h w hw) (List.all_eq_true.mp (cls_inG ci h) w hw)
theorem cls_inst0 : ∀ ci, ci < 12 → Cond.instantiable (cR ci) (cN ci) ∈ lw_tbl ∧ Cond.initialized (cR ci) ∈ lw_tbl := by
  intro ci h
  match ci, h with
  | 0, _ => decide +kernel
  | 1, _ => decide +kernel
  | 2, _ => decide +kernel
  | 3, _ => decide +kernel
  | 4, _ => decide +kernel
  | 5, _ => decide +kernel
  | 6, _ => decide +kernel
  | 7, _ => decide +kernel
  | 8, _ => decide +kernel
  | 9, _ => decide +kernel
  | 10, _ => decide +kernel
  | 11, _ => decide +kernel
  | n + 12, h => omega
theorem cls_inst (ci : Nat) (h : ci < 12) : Cond.instantiable (cR ci) (cN ci) ∈ tb ∧ Cond.initialized (cR ci) ∈ tb := ⟨tb_of (cls_inst0 ci h).1 rfl, tb_of (cls_inst0 ci h).2 rfl⟩
/-- values: an int, a long, a reference (0 is null, a + 1 the cell a) -/
abbrev Av : Type := Int32 ⊕ Int64 ⊕ Nat
abbrev vI (x : Int32) : Av := .inl x
abbrev vJ (x : Int64) : Av := .inr (.inl x)
abbrev vR (a : Nat) : Av := .inr (.inr a)
def nz (a : Nat) : Option Nat := if a = 0 then none else some (a - 1)
def rn (a : Nat) : Value := va_rf (nz a)
def tv (v : Av) : Value := match v with
  | .inl x => .int x
  | .inr (.inl x) => .long x
  | .inr (.inr a) => rn a
theorem nz_0 : nz 0 = none := rfl
theorem nz_ne {a : Nat} (h : a ≠ 0) : nz a = some (a - 1) := by simp [nz, h]
theorem rn_0 : rn 0 = .null := rfl
theorem rn_ne {a : Nat} (h : a ≠ 0) : rn a = .ref (a - 1) := by simp [rn, nz, h, va_rf]
theorem nz_inj {a b : Nat} : nz a = nz b ↔ a = b := by
  unfold nz
  by_cases h1 : a = 0 <;> by_cases h2 : b = 0 <;> simp [h1, h2] <;> omega
def cat (v : Av) : Nat := match v with
  | .inl _ => 1
  | .inr (.inl _) => 2
  | .inr (.inr _) => 1
def isJ (v : Av) : Bool := match v with
  | .inl _ => false
  | .inr (.inl _) => true
  | .inr (.inr _) => false
theorem rn_cat (a : Nat) : (rn a).category = 1 := by
  by_cases h : a = 0
  · subst h; rfl
  · rw [rn_ne h]; rfl
theorem cat_tv (v : Av) : (tv v).category = cat v := by
  rcases v with x | x | a
  · rfl
  · rfl
  · exact rn_cat a
theorem cat_J (v : Av) : cat v = if isJ v then 2 else 1 := by rcases v with x | x | a <;> rfl
/-- the world: kinds of the addresses (0: none; c+1: an object of class c; 13 int[], 14 long[], 15 boolean[], 16 Act[], 17 Entry[], 18 Folio[]), fields of ints, longs, references, lengths, contents of ints, longs, references -/
abbrev Wd : Type := (Nat → Nat) × (Nat → Nat → Nat → Int32) × (Nat → Nat → Nat → Int64) × (Nat → Nat → Nat → Nat) × (Nat → Nat) × (Nat → Nat → Int32) × (Nat → Nat → Int64) × (Nat → Nat → Nat)
def wK (w : Wd) : Nat → Nat := w.1
def wI (w : Wd) : Nat → Nat → Nat → Int32 := w.2.1
def wJ (w : Wd) : Nat → Nat → Nat → Int64 := w.2.2.1
def wR (w : Wd) : Nat → Nat → Nat → Nat := w.2.2.2.1
def wL (w : Wd) : Nat → Nat := w.2.2.2.2.1
def xI (w : Wd) : Nat → Nat → Int32 := w.2.2.2.2.2.1
def xJ (w : Wd) : Nat → Nat → Int64 := w.2.2.2.2.2.2.1
def xR (w : Wd) : Nat → Nat → Nat := w.2.2.2.2.2.2.2
def u3 {α : Type} (f : Nat → Nat → Nat → α) (c k a : Nat) (v : α) : Nat → Nat → Nat → α := fun c' k' a' => if c' = c ∧ k' = k ∧ a' = a then v else f c' k' a'
def u2 {α : Type} (f : Nat → Nat → α) (a i : Nat) (v : α) : Nat → Nat → α := fun a' i' => if a' = a ∧ i' = i then v else f a' i'
def z3 {α : Type} (f : Nat → Nat → Nat → α) (q : Nat) (v : α) : Nat → Nat → Nat → α := fun c' k' a' => if a' = q then v else f c' k' a'
def z2 {α : Type} (f : Nat → Nat → α) (q : Nat) (v : α) : Nat → Nat → α := fun a' i' => if a' = q then v else f a' i'
def sI (w : Wd) (c k a : Nat) (v : Int32) : Wd := (w.1, u3 w.2.1 c k a v, w.2.2)
def sJ (w : Wd) (c k a : Nat) (v : Int64) : Wd := (w.1, w.2.1, u3 w.2.2.1 c k a v, w.2.2.2)
def sR (w : Wd) (c k a : Nat) (v : Nat) : Wd := (w.1, w.2.1, w.2.2.1, u3 w.2.2.2.1 c k a v, w.2.2.2.2)
def yI (w : Wd) (a i : Nat) (v : Int32) : Wd := (w.1, w.2.1, w.2.2.1, w.2.2.2.1, w.2.2.2.2.1, u2 w.2.2.2.2.2.1 a i v, w.2.2.2.2.2.2)
def yJ (w : Wd) (a i : Nat) (v : Int64) : Wd := (w.1, w.2.1, w.2.2.1, w.2.2.2.1, w.2.2.2.2.1, w.2.2.2.2.2.1, u2 w.2.2.2.2.2.2.1 a i v, w.2.2.2.2.2.2.2)
def yR (w : Wd) (a i : Nat) (v : Nat) : Wd := (w.1, w.2.1, w.2.2.1, w.2.2.2.1, w.2.2.2.2.1, w.2.2.2.2.2.1, w.2.2.2.2.2.2.1, u2 w.2.2.2.2.2.2.2 a i v)
def nO (w : Wd) (ci q : Nat) : Wd := (va_up w.1 q (ci + 1), z3 w.2.1 q 0, z3 w.2.2.1 q 0, z3 w.2.2.2.1 q 0, w.2.2.2.2)
def nA (w : Wd) (t q n : Nat) : Wd := (va_up w.1 q t, w.2.1, w.2.2.1, w.2.2.2.1, va_up w.2.2.2.2.1 q n, z2 w.2.2.2.2.2.1 q 0, z2 w.2.2.2.2.2.2.1 q 0, z2 w.2.2.2.2.2.2.2 q 0)
def fk (t : FieldType) : Nat := match t with
  | .long => 1
  | .object _ => 2
  | .array _ => 2
  | _ => 0
def fv (w : Wd) (ci k a : Nat) : Value := match fk (cY ci k) with
  | 1 => .long (wJ w ci k a)
  | 2 => rn (wR w ci k a)
  | _ => .int (wI w ci k a)
def fl (w : Wd) (ci a : Nat) : List Value := (List.range (cN ci)).map (fun k => fv w ci k a)
def ac (w : Wd) (t a : Nat) : (Nat → Int32) ⊕ (Nat → Int64) ⊕ (Nat → UInt32) ⊕ (Nat → UInt64) ⊕ (Nat → Option Nat) :=
  if t = 13 ∨ t = 15 then .inl (xI w a) else if t = 14 then .inr (.inl (xJ w a)) else .inr (.inr (.inr (.inr (fun i => nz (xR w a i)))))
def wF (cy : Nat → ClassId) (w : Wd) (a : Nat) : va_E := if wK w a ≤ 12 then .inr (wK w a - 1, fl w (wK w a - 1) a) else .inl (cy (wK w a), wL w a, ac w (wK w a) a)
/-- the claim's context: launch, slots of the classes, array classes, the first heap -/
abbrev Cx : Type := Launch × va_G × (Nat → ClassId) × Heap
abbrev Fr (X : Cx) : Nat → Prop := fun q => X.2.2.2.size ≤ q
def tyA (t : Nat) : FieldType := match t with
  | 13 => .int | 14 => .long | 15 => .boolean | 16 => .object RX0 | 17 => .object RX2 | _ => .object RX3
abbrev tysX (X : Cx) : List (ClassId × FieldType) := [(X.2.2.1 13, .int), (X.2.2.1 14, .long), (X.2.2.1 15, .boolean), (X.2.2.1 16, .object RX0), (X.2.2.1 17, .object RX2), (X.2.2.1 18, .object RX3)]
theorem tysX_get (X : Cx) : ∀ t, 13 ≤ t → t < 19 → (tysX X)[t - 13]? = some (X.2.2.1 t, tyA t) := by
  intro t h1 h2
  match t, h1, h2 with
  | 13, _, _ => rfl | 14, _, _ => rfl | 15, _, _ => rfl | 16, _, _ => rfl | 17, _, _ => rfl | 18, _, _ => rfl
  | n + 19, h1, h2 => omega
def wG (cy : Nat → ClassId) (w : Wd) (q : Nat) : va_E := wF cy w (q + 1)
theorem wG_s {cy : Nat → ClassId} {w : Wd} {a : Nat} (h : a ≠ 0) : wG cy w (a - 1) = wF cy w a := by
  unfold wG
  rw [Nat.sub_add_cancel (by omega)]
/-- the heap holds the world -/
def Rh (X : Cx) (w : Wd) (H : Heap) : Prop := ∃ L : List Nat, va_P X.2.1 cls (va_pl L (wG X.2.2.1 w)) H ∧ va_D (Fr X) (va_pl L (wG X.2.2.1 w)) ∧ ∀ a, wK w a ≠ 0 → a ≠ 0 ∧ a - 1 ∈ L
theorem Rh.ne {X : Cx} {w : Wd} {H : Heap} (h : Rh X w H) (h0 : 0 < X.2.2.2.size) {a : Nat} (ha : wK w a ≠ 0) : a ≠ 0 := by
  obtain ⟨L, hP, hD, hL⟩ := h
  exact (hL a ha).1
theorem fl_get {w : Wd} {ci a k : Nat} (h : k < cN ci) : (fl w ci a)[k]? = some (fv w ci k a) := by
  simp [fl, h]
theorem fl_len (w : Wd) (ci a : Nat) : (fl w ci a).length = cN ci := by simp [fl]
theorem fl_set {w w' : Wd} {ci a k : Nat} {v : Value} (hv : fv w' ci k a = v) (ho : ∀ j, j ≠ k → fv w' ci j a = fv w ci j a) : (fl w ci a).set k v = fl w' ci a := by
  apply List.ext_getElem?
  intro j
  rw [List.getElem?_set]
  simp only [fl, List.getElem?_map, List.length_map, List.length_range]
  by_cases hj : k = j
  · subst hj
    by_cases hk : k < cN ci
    · simp [hk, hv]
    · simp [hk]
  · rw [if_neg hj]
    by_cases hk : j < cN ci
    · simp [hk, ho j (fun e => hj e.symm)]
    · simp [hk]
theorem wF_obj {cy : Nat → ClassId} {w : Wd} {a ci : Nat} (h : wK w a = ci + 1) (hc : ci < 12) : wF cy w a = .inr (ci, fl w ci a) := by
  simp only [wF, h]
  rw [if_pos (by omega)]
  rfl
theorem wF_arr {cy : Nat → ClassId} {w : Wd} {a t : Nat} (h : wK w a = t) (ht : 13 ≤ t) : wF cy w a = .inl (cy t, wL w a, ac w t a) := by
  simp only [wF, h]
  rw [if_neg (by omega)]
/-- two worlds that are one but at an address -/
theorem wG_up {cy : Nat → ClassId} {w w' : Wd} {a : Nat} {e : va_E} (ho : ∀ b, b ≠ a → wG cy w' b = wG cy w b) (he : wG cy w' a = e) : ∀ b, va_up (wG cy w) a e b = wG cy w' b := by
  intro b
  unfold va_up
  by_cases hb : b = a
  · subst hb; rw [if_pos rfl]; exact he.symm
  · rw [if_neg hb]; exact (ho b hb).symm
/-- they look the same from an address -/
def eqAt (w w' : Wd) (b : Nat) : Prop := wK w' b = wK w b ∧ (∀ c k, wI w' c k b = wI w c k b) ∧ (∀ c k, wJ w' c k b = wJ w c k b) ∧ (∀ c k, wR w' c k b = wR w c k b) ∧ wL w' b = wL w b ∧ xI w' b = xI w b ∧ xJ w' b = xJ w b ∧ xR w' b = xR w b
theorem eqAt.F {cy : Nat → ClassId} {w w' : Wd} {b : Nat} (h : eqAt w w' b) : wF cy w' b = wF cy w b := by
  obtain ⟨h1, h2, h3, h4, h5, h6, h7, h8⟩ := h
  have hf : ∀ ci, fl w' ci b = fl w ci b := fun ci => by
    unfold fl fv
    simp only [h2, h3, h4]
  unfold wF ac
  simp only [h1, h5, h6, h7, h8, hf]
theorem eqAt_sI {w : Wd} {c k a b : Nat} {v : Int32} (h : b ≠ a) : eqAt w (sI w c k a v) b := by
  refine ⟨rfl, fun c' k' => ?_, fun _ _ => rfl, fun _ _ => rfl, rfl, rfl, rfl, rfl⟩
  simp [wI, sI, u3, h]
theorem eqAt_sJ {w : Wd} {c k a b : Nat} {v : Int64} (h : b ≠ a) : eqAt w (sJ w c k a v) b := by
  refine ⟨rfl, fun _ _ => rfl, fun c' k' => ?_, fun _ _ => rfl, rfl, rfl, rfl, rfl⟩
  simp [wJ, sJ, u3, h]
theorem eqAt_sR {w : Wd} {c k a b : Nat} {v : Nat} (h : b ≠ a) : eqAt w (sR w c k a v) b := by
  refine ⟨rfl, fun _ _ => rfl, fun _ _ => rfl, fun c' k' => ?_, rfl, rfl, rfl, rfl⟩
  simp [wR, sR, u3, h]
theorem eqAt_yI {w : Wd} {a i b : Nat} {v : Int32} (h : b ≠ a) : eqAt w (yI w a i v) b := by
  refine ⟨rfl, fun _ _ => rfl, fun _ _ => rfl, fun _ _ => rfl, rfl, ?_, rfl, rfl⟩
  funext j
  simp [xI, yI, u2, h]
theorem eqAt_yJ {w : Wd} {a i b : Nat} {v : Int64} (h : b ≠ a) : eqAt w (yJ w a i v) b := by
  refine ⟨rfl, fun _ _ => rfl, fun _ _ => rfl, fun _ _ => rfl, rfl, rfl, ?_, rfl⟩
  funext j
  simp [xJ, yJ, u2, h]
theorem eqAt_yR {w : Wd} {a i b : Nat} {v : Nat} (h : b ≠ a) : eqAt w (yR w a i v) b := by
  refine ⟨rfl, fun _ _ => rfl, fun _ _ => rfl, fun _ _ => rfl, rfl, rfl, rfl, ?_⟩
  funext j
  simp [xR, yR, u2, h]
theorem eqAt_nO {w : Wd} {ci q b : Nat} (h : b ≠ q) : eqAt w (nO w ci q) b := by
  refine ⟨?_, fun _ _ => ?_, fun _ _ => ?_, fun _ _ => ?_, rfl, rfl, rfl, rfl⟩
  · simp [wK, nO, va_up, h]
  · simp [wI, nO, z3, h]
  · simp [wJ, nO, z3, h]
  · simp [wR, nO, z3, h]
theorem eqAt_nA {w : Wd} {t q n b : Nat} (h : b ≠ q) : eqAt w (nA w t q n) b := by
  refine ⟨?_, fun _ _ => rfl, fun _ _ => rfl, fun _ _ => rfl, ?_, ?_, ?_, ?_⟩
  · simp [wK, nA, va_up, h]
  · simp [wL, nA, va_up, h]
  · funext j; simp [xI, nA, z2, h]
  · funext j; simp [xJ, nA, z2, h]
  · funext j; simp [xR, nA, z2, h]
