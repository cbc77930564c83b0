/-! ===== the law's own judgement ===== -/
def lawV (b L : Nat) (xs : Nat → Int32) (H0 : Heap) : Vw := (room_1, 600000, 7302250, lw_Z, fun s => s.heap = H0 ∧ va_X b L xs s H0 ∧ b < H0.size)
abbrev mL_law : Me := (yL_law, cL_law, 4, some .boolean)
theorem lw_retA {p : Program} {l : Launch} {e : Env} {s : State} {m : MethodId} {args : Array Value} {below : List Frame} {meth : Method} {c : Code} (hx : p.tables.exec = Jvm.exec) (hb : c.code = code) (hr : meth.sig.returnType = ret) (hlocks : meth.locks = false) {pc : Nat} {H : Heap} {ls : Array Slot} (hdg : decode code pc = .ok (.ireturn, 1)) : W p l e room_1 s m args below meth c H [] 600000 7302250 (lw_Z below args s) (F0 m pc ls [.int 1]) := by
  intro T hT X
  obtain ⟨fs, hret, hrun, hended, hW, hframe⟩ := X.leave (v := some (.int 1)) (hlocks := hlocks) (fun h => by rw [hr] at h; cases h)
  have hmeth' : T.vm.method? m = some meth := X.method'
  refine ⟨T.setFrames fs, ?_, .returned (some (.int 1)), hrun, hended, rfl, ⟨_, rfl⟩, hW, hframe⟩
  jvm_step X.here [X.here.top, hx, hb, hdg, hmeth', hr, ret, narrow_b1]
  (try refine ⟨rfl, ?_⟩); (try refine ⟨rfl, ?_⟩)
  first | (intro acts; rw [hret _ acts rfl rfl rfl]) | rw [hret _ _ rfl rfl rfl]
  exact Steps.refl _
section LW
variable {X : Cx} {b L : Nat} {xs : Nat → Int32} {rc rs pc : Nat} {lv : List (Nat × Av)} {st : List Av} {w : Wd}
theorem l_ret (hd : decode cL_law pc = .ok (.ireturn, 1)) : EJ X mL_law (lawV b L xs X.2.2.2) rc rs pc lv [vI 1] w := by
  intro p e s m args below meth c H locs cells slots ls hA hV hR hS hl hc hs hcr hsr
  refine W.widen (k := 600000) (n := 7302250) (Nat.le_trans (Nat.le_add_right _ _) hc) (Nat.le_trans (Nat.le_add_right _ _) hs) ?_
  refine va_forget (fun q hq => ?_) (lw_retA hA.1 hA.2.1 hA.2.2.1 hA.2.2.2.2.2.2.2.1 hd)
  rw [hV.1]
  exact hS.2.2 q hq
theorem l_sld {i : Int32} (hd : decode cL_law pc = .ok (.iaload, 1)) (hi : vp_in i L) (kk : EJ X mL_law (lawV b L xs X.2.2.2) rc rs (pc + 1) lv (vI (xs i.toNatClampNeg) :: st) w) : EJ X mL_law (lawV b L xs X.2.2.2) rc rs pc lv (vI i :: vR (b + 1) :: st) w := by
  intro p e s m args below meth c H locs cells slots ls hA hV hR hS hl hc hs hcr hsr
  have e1 : tv (vR (b + 1)) = .ref b := rn_ne (by omega)
  rw [List.map_cons, List.map_cons, e1]
  exact va_sld hA.1 hA.2.1 hV.2.1 hV.2.2 (by show ¬ X.2.2.2.size ≤ b; have := hV.2.2; omega) hS hi hd (kk p e s m args below meth c H locs cells slots ls hA hV hR hS hl hc hs hcr hsr)
theorem l_slen (hd : decode cL_law pc = .ok (.arraylength, 1)) (kk : EJ X mL_law (lawV b L xs X.2.2.2) rc rs (pc + 1) lv (vI (Int32.ofNat L) :: st) w) : EJ X mL_law (lawV b L xs X.2.2.2) rc rs pc lv (vR (b + 1) :: st) w := by
  intro p e s m args below meth c H locs cells slots ls hA hV hR hS hl hc hs hcr hsr
  have e1 : tv (vR (b + 1)) = .ref b := rn_ne (by omega)
  rw [List.map_cons, e1]
  exact va_slen hA.1 hA.2.1 hV.2.1 hV.2.2 (by show ¬ X.2.2.2.size ≤ b; have := hV.2.2; omega) hS hd (kk p e s m args below meth c H locs cells slots ls hA hV hR hS hl hc hs hcr hsr)
end LW
/-! ===== the tables at the law's entry ===== -/
theorem kk_prim {ty : FieldType} {args : Array Value} {s : State} (h : (Cond.arrayClass ty).before args s = true) (hne : ∀ C, ty ≠ .object C) : ∃ cA, ArrOfT s cA ty ∧ va_RA s cA ty := by
  obtain ⟨cA, k, comp, h1, h2, h3⟩ := Cond.arrayClass_spec h
  refine ⟨cA, fun n z => ⟨fun k h => (by cases h), k, h2, comp, h3⟩, ?_⟩
  cases ty <;> first | exact h1 | exact absurd rfl (hne _)
theorem kk_obj {C : String} {args : Array Value} {s : State} (h : (Cond.arrayOver (.object C)).before args s = true) : ∃ cA, ArrOfT s cA (.object C) ∧ va_RA s cA (.object C) := by
  obtain ⟨comp, cA, k, h1, h2, h3, h4, h5⟩ := Cond.arrayOver_spec h
  exact ⟨cA, fun n z => ⟨fun k h => (by cases h), k, h3, comp, h4⟩, k, comp, h3, h4, h1, h5⟩
theorem kk_all {args : Array Value} {s : State} (hts : ∀ w ∈ lw_tbl, w.before args s = true) : ∃ (D : va_G) (cy : Nat → ClassId), ∀ (l : Launch) (H : Heap), KK (l, D, cy, H) s := by
  have h1 : ∀ ci, ∃ q : ClassId × (Nat → Nat), ci < 12 → u_Kn s (cR ci) (cT ci) (cN ci) q.1 q.2 := by
    intro ci
    by_cases h : ci < 12
    · obtain ⟨cC, iS, hk⟩ := u_known (C := cR ci) (T := cT ci) (N := cN ci) (n := cN ci) hts (cls_in0 ci h) (hts _ (cls_inst0 ci h).1)
      exact ⟨(cC, iS), fun _ => hk⟩
    · exact ⟨(0, fun _ => 0), fun q => absurd q h⟩
  have h2 : ∀ t, ∃ cA : ClassId, 13 ≤ t → t < 19 → ArrOfT s cA (tyA t) ∧ va_RA s cA (tyA t) := by
    intro t
    by_cases h : 13 ≤ t ∧ t < 19
    · obtain ⟨ha, hb⟩ := h
      have : ∃ cA, ArrOfT s cA (tyA t) ∧ va_RA s cA (tyA t) := by
        match t, ha, hb with
        | 13, _, _ => exact kk_prim (hts (.arrayClass .int) (by decide +kernel)) (fun C => by intro h; cases h)
        | 14, _, _ => exact kk_prim (hts (.arrayClass .long) (by decide +kernel)) (fun C => by intro h; cases h)
        | 15, _, _ => exact kk_prim (hts (.arrayClass .boolean) (by decide +kernel)) (fun C => by intro h; cases h)
        | 16, _, _ => exact kk_obj (hts (.arrayOver (.object RX0)) (by decide +kernel))
        | 17, _, _ => exact kk_obj (hts (.arrayOver (.object RX2)) (by decide +kernel))
        | 18, _, _ => exact kk_obj (hts (.arrayOver (.object RX3)) (by decide +kernel))
        | n + 19, _, h => exact absurd h (by omega)
      obtain ⟨cA, hh⟩ := this
      exact ⟨cA, fun _ _ => hh⟩
    · exact ⟨0, fun q1 q2 => absurd ⟨q1, q2⟩ h⟩
  refine ⟨(fun ci => (Classical.choose (h1 ci)).1, fun ci => (Classical.choose (h1 ci)).2), fun t => Classical.choose (h2 t), fun l H => ⟨⟨fun c q hq => ?_, fun k q hk => ?_⟩, va_AO.of (hts (.arrayOver (.object RX0)) (by decide +kernel)), va_AO.of (hts (.arrayOver (.object RX2)) (by decide +kernel)), va_AO.of (hts (.arrayOver (.object RX3)) (by decide +kernel))⟩⟩
  · have hc : c < 12 := by
      have := (List.getElem?_eq_some_iff.mp hq).1
      exact this
    have hq' := (cls_get c hc).symm.trans hq
    cases hq'
    exact Classical.choose_spec (h1 c) hc
  · have hk6 : k < 6 := (List.getElem?_eq_some_iff.mp hk).1
    have hk' := (tysX_get (l, (fun ci => (Classical.choose (h1 ci)).1, fun ci => (Classical.choose (h1 ci)).2), (fun t => Classical.choose (h2 t)), H) (k + 13) (by omega) (by omega)).symm.trans hk
    cases hk'
    exact Classical.choose_spec (h2 (k + 13)) (by omega) (by omega)
theorem Rh_empty (X : Cx) (H : Heap) : Rh X (fun _ => 0, fun _ _ _ => 0, fun _ _ _ => 0, fun _ _ _ => 0, fun _ => 0, fun _ _ => 0, fun _ _ => 0, fun _ _ => 0) H :=
  ⟨[], fun k q h => by simp [va_pl] at h, ⟨fun i j p q h => by simp [va_pl] at h, fun k q h => by simp [va_pl] at h⟩, fun a h => absurd rfl h⟩
/-- the empty world -/
def w00 : Wd := (fun _ => 0, fun _ _ _ => 0, fun _ _ _ => 0, fun _ _ _ => 0, fun _ => 0, fun _ _ => 0, fun _ _ => 0, fun _ _ => 0)
/-- the law's walk out of its judgement from the empty world -/
theorem whole_of (hJ : ∀ (X : Cx) (b L : Nat) (xs : Nat → Int32), L ≤ 4096 → EJ X mL_law (lawV b L xs X.2.2.2) 600000 7302250 0 [(0, vR (b + 1))] [] w00)
    {p : Program} {e : Env} {s : State} {m : MethodId} {below : List Frame} {meth : Method} {c : Code} (l : Launch) {b L : Nat} {xs : Nat → Int32} (hL : L ≤ 4096) (C0 : lw_At p s m meth c b L xs) : W p l e room_1 s m #[Value.ref b] below meth c s.heap [] 0 0 (lw_Z below #[Value.ref b] s) (entryFrame m ([Value.ref b] : List Value).toArray 4) := by
  obtain ⟨hx, hb, hr, hml, hown, hts, hX, hbl, hlocks, hgv⟩ := C0
  obtain ⟨D, cy, hKK⟩ := kk_all hts
  have hl := lv_entry ([.ref b]) (n := 4) (Nat.le_of_ble_eq_true rfl)
  rw [lg_entry_eq]
  generalize (lg_sl ([.ref b]) ++ List.replicate (4 - (lg_sl ([.ref b])).length) Slot.unset).toArray = ls at hl ⊢
  have e1 : tv (vR (b + 1)) = .ref b := rn_ne (by omega)
  have hl : lv_has ls 4 (([(0, vR (b + 1))] : List (Nat × Av)).map t2) := by
    show lv_has ls 4 [(0, tv (vR (b + 1)))]
    rw [e1]
    exact hl
  have c1 : 0 + 600000 ≤ (lawV b L xs s.heap).2.1 := by show 0 + 600000 ≤ 600000; omega
  have c2 : 0 + 7302250 ≤ (lawV b L xs s.heap).2.2.1 := by show 0 + 7302250 ≤ 7302250; omega
  have c3 : (lawV b L xs s.heap).2.1 ≤ (lawV b L xs s.heap).1.cells := by show 600000 ≤ 600000; omega
  have c4 : (lawV b L xs s.heap).2.2.1 ≤ (lawV b L xs s.heap).1.slots := by show 7302250 ≤ 7302250; omega
  exact hJ (l, D, cy, s.heap) b L xs hL p e s m _ below meth c s.heap [] 0 0 ls ⟨hx, hb, hr, hml, hown, fun w hw => hts w (List.mem_filter.mp hw).1, hKK l s.heap, hlocks, (fun h => absurd h (by decide)), (by show 0 < s.heap.size; omega)⟩ ⟨rfl, hX, hbl⟩ (Rh_empty _ _) ⟨Nat.le_refl _, fun _ _ _ => rfl, fun _ h => by cases h⟩ hl c1 c2 c3 c4
