/-! ===== helps for the laid rows ===== -/
theorem tb_a1 {w : Cond} (i : Nat) (h : tables_1_1[i]? = some w) (hg : goodWord w = true) : w ∈ tb := tb_of (List.mem_append_right _ (List.mem_append_left _ (List.mem_of_getElem? h))) hg
theorem tb_a2 {w : Cond} (i : Nat) (h : tables_1_2[i]? = some w) (hg : goodWord w = true) : w ∈ tb := tb_of (List.mem_append_right _ (List.mem_append_right _ (List.mem_append_left _ (List.mem_of_getElem? h)))) hg
theorem tb_a3 {w : Cond} (i : Nat) (h : tables_1_3[i]? = some w) (hg : goodWord w = true) : w ∈ tb := tb_of (List.mem_append_right _ (List.mem_append_right _ (List.mem_append_right _ (List.mem_append_left _ (List.mem_of_getElem? h))))) hg
theorem tb_a4 {w : Cond} (i : Nat) (h : tables_1_4[i]? = some w) (hg : goodWord w = true) : w ∈ tb := tb_of (List.mem_append_right _ (List.mem_append_right _ (List.mem_append_right _ (List.mem_append_right _ (List.mem_append_left _ (List.mem_of_getElem? h)))))) hg
theorem tb_a5 {w : Cond} (i : Nat) (h : tables_1_5[i]? = some w) (hg : goodWord w = true) : w ∈ tb := tb_of (List.mem_append_right _ (List.mem_append_right _ (List.mem_append_right _ (List.mem_append_right _ (List.mem_append_right _ (List.mem_append_left _ (List.mem_of_getElem? h))))))) hg
theorem tb_a6 {w : Cond} (i : Nat) (h : tables_1_6[i]? = some w) (hg : goodWord w = true) : w ∈ tb := tb_of (List.mem_append_right _ (List.mem_append_right _ (List.mem_append_right _ (List.mem_append_right _ (List.mem_append_right _ (List.mem_append_right _ (List.mem_of_getElem? h))))))) hg
def lvK (ks : List Nat) (lv : List (Nat × Av)) : List (Nat × Av) := match lv with
  | [] => []
  | q :: t => if ks.elem q.1 then q :: lvK ks t else lvK ks t
theorem lvK_mem {ks : List Nat} {lv : List (Nat × Av)} {q : Nat × Av} (h : q ∈ lvK ks lv) : q ∈ lv := by
  induction lv with
  | nil => cases h
  | cons r t ih =>
    unfold lvK at h
    split at h
    · rcases List.mem_cons.mp h with h | h
      · rw [h]; exact List.mem_cons_self
      · exact List.mem_cons_of_mem _ (ih h)
    · exact List.mem_cons_of_mem _ (ih h)
theorem EJ.drop {X : Cx} {M : Me} {V : Vw} {rc rs pc : Nat} {lv lv' : List (Nat × Av)} {st : List Av} {w : Wd} (ks : List Nat) (he : lvK ks lv = lv') (h : EJ X M V rc rs pc lv' st w) : EJ X M V rc rs pc lv st w := by
  intro p e s m args below meth c H locs cells slots ls hA hV hR hS hl hc hs hcr hsr
  subst he
  refine h p e s m args below meth c H locs cells slots ls hA hV hR hS ⟨hl.1, hl.2.1, fun q hq => ?_⟩ hc hs hcr hsr
  obtain ⟨r, hr, rfl⟩ := List.mem_map.mp hq
  exact hl.2.2 _ (List.mem_map.mpr ⟨r, lvK_mem hr, rfl⟩)
theorem e_tableK {X : Cx} {M : Me} {V : Vw} {rc rs pc : Nat} {lv : List (Nat × Av)} {st : List Av} {w : Wd} {dflt lo hi : Int} {offs : Array Int} {len : Nat} {x c : Int32} {off : Int} {tgt : Nat} (hd : decode M.2.1 pc = .ok (.tableswitch dflt lo hi offs, len)) (hx : x = c) (h1 : ¬ c.toInt < lo) (h2 : ¬ hi < c.toInt) (ho : offs[(c.toInt - lo).toNat]? = some off) (ht : (pc : Int) + off = (tgt : Int)) (kk : EJ X M V rc rs tgt lv st w) : EJ X M V rc rs pc lv (vI x :: st) w := by
  subst hx
  exact e_tableIn hd h1 h2 ho ht kk
def nfd (t : FieldType) : Bool := match t with
  | .float => false
  | .double => false
  | _ => true
theorem dv_all (t : FieldType) (h : nfd t = true) : defaultValue t = dv t := by cases t <;> first | rfl | cases h
theorem nO_new {w : Wd} {ci q : Nat} : wK (nO w ci q) q = ci + 1 := by simp [wK, nO, va_up]
theorem nO_old {w : Wd} {ci q a c : Nat} (h : wK w a = c + 1) (hq : wK w q = 0) : wK (nO w ci q) a = c + 1 := by
  have hne : a ≠ q := fun e => by subst e; omega
  simp only [wK, nO, va_up, if_neg hne]
  exact h
theorem nA_new {w : Wd} {t q n : Nat} : wK (nA w t q n) q = t := by simp [wK, nA, va_up]
theorem nA_old {w : Wd} {t q n a c : Nat} (h : wK w a = c + 1) (hq : wK w q = 0) : wK (nA w t q n) a = c + 1 := by
  have hne : a ≠ q := fun e => by subst e; omega
  simp only [wK, nA, va_up, if_neg hne]
  exact h
theorem K_ne {w : Wd} {a c : Nat} (h : wK w a = c + 1) : wK w a ≠ 0 := by omega
theorem dv0 : ∀ j, j < cN 0 → defaultValue (cY 0 j) = dv (cY 0 j) := fun j hj => dv_all _ ((by decide +kernel : ∀ j, j < cN 0 → nfd (cY 0 j) = true) j hj)
theorem dv1 : ∀ j, j < cN 1 → defaultValue (cY 1 j) = dv (cY 1 j) := fun j hj => dv_all _ ((by decide +kernel : ∀ j, j < cN 1 → nfd (cY 1 j) = true) j hj)
theorem dv2 : ∀ j, j < cN 2 → defaultValue (cY 2 j) = dv (cY 2 j) := fun j hj => dv_all _ ((by decide +kernel : ∀ j, j < cN 2 → nfd (cY 2 j) = true) j hj)
theorem dv3 : ∀ j, j < cN 3 → defaultValue (cY 3 j) = dv (cY 3 j) := fun j hj => dv_all _ ((by decide +kernel : ∀ j, j < cN 3 → nfd (cY 3 j) = true) j hj)
theorem dv4 : ∀ j, j < cN 4 → defaultValue (cY 4 j) = dv (cY 4 j) := fun j hj => dv_all _ ((by decide +kernel : ∀ j, j < cN 4 → nfd (cY 4 j) = true) j hj)
theorem dv5 : ∀ j, j < cN 5 → defaultValue (cY 5 j) = dv (cY 5 j) := fun j hj => dv_all _ ((by decide +kernel : ∀ j, j < cN 5 → nfd (cY 5 j) = true) j hj)
theorem dv6 : ∀ j, j < cN 6 → defaultValue (cY 6 j) = dv (cY 6 j) := fun j hj => dv_all _ ((by decide +kernel : ∀ j, j < cN 6 → nfd (cY 6 j) = true) j hj)
theorem dv7 : ∀ j, j < cN 7 → defaultValue (cY 7 j) = dv (cY 7 j) := fun j hj => dv_all _ ((by decide +kernel : ∀ j, j < cN 7 → nfd (cY 7 j) = true) j hj)
theorem dv8 : ∀ j, j < cN 8 → defaultValue (cY 8 j) = dv (cY 8 j) := fun j hj => dv_all _ ((by decide +kernel : ∀ j, j < cN 8 → nfd (cY 8 j) = true) j hj)
theorem dv9 : ∀ j, j < cN 9 → defaultValue (cY 9 j) = dv (cY 9 j) := fun j hj => dv_all _ ((by decide +kernel : ∀ j, j < cN 9 → nfd (cY 9 j) = true) j hj)
theorem dv10 : ∀ j, j < cN 10 → defaultValue (cY 10 j) = dv (cY 10 j) := fun j hj => dv_all _ ((by decide +kernel : ∀ j, j < cN 10 → nfd (cY 10 j) = true) j hj)
theorem dv11 : ∀ j, j < cN 11 → defaultValue (cY 11 j) = dv (cY 11 j) := fun j hj => dv_all _ ((by decide +kernel : ∀ j, j < cN 11 → nfd (cY 11 j) = true) j hj)
