/-! ===== the law's loop ===== -/
theorem hlp_mul : ∀ E, E < 301 → E * (1024 - E) ≤ 217200 := by decide +kernel
/-- what stands before call k: the two beside each other, what room is left; U is what the sells took, E bounds the entries -/
def LI (w : Wd) (x m : Nat) (r : Rs) (k E U rc rs : Nat) : Prop := AT w x m r r ∧ nE r ≤ E ∧ E ≤ 300 ∧ E ≤ 2 * k ∧ 2 * U ≤ E * (2 * k - E) ∧ 599944 ≤ rc + 4 * k + U ∧ 7250418 ≤ rs + 62 * k + 60 * U
theorem hlp_grow {E E' k U : Nat} (h1 : E ≤ 2 * k) (h2 : 2 * U ≤ E * (2 * k - E)) (h3 : E' ≤ E + 2) (hge : E ≤ E') : E' ≤ 2 * (k + 1) ∧ 2 * U ≤ E' * (2 * (k + 1) - E') := by
  refine ⟨by omega, Nat.le_trans h2 (Nat.mul_le_mul hge (by omega))⟩
theorem hlp_U {E k U : Nat} (hE : E ≤ 300) (hk : k ≤ 512) (h2 : 2 * U ≤ E * (2 * k - E)) : U ≤ 108600 := by
  have h3 : E * (2 * k - E) ≤ E * (1024 - E) := Nat.mul_le_mul_left _ (by omega)
  have h4 := hlp_mul E (by omega)
  omega
theorem hlp_sell {E k U : Nat} (h1 : E ≤ 2 * k) (h2 : 2 * U ≤ E * (2 * k - E)) : 2 * (U + E) ≤ E * (2 * (k + 1) - E) := by
  have e : 2 * (k + 1) - E = (2 * k - E) + 2 := by omega
  rw [e, Nat.mul_add E]
  omega
section LL
variable {X : Cx} {w : Wd} {x m : Nat} {r : Rs} {k E U rc rs : Nat}
theorem li_room (h : LI w x m r k E U rc rs) (hk : k < 512) : 4 ≤ rc ∧ 62 ≤ rs ∧ nE r + 3 ≤ rc ∧ 60 * nE r + 9 ≤ rs := by
  obtain ⟨-, h1, h2, h3, h4, h5, h6⟩ := h
  have h7 := hlp_U h2 (show k + 1 ≤ 512 by omega) (hlp_sell h3 h4)
  omega
theorem li_step (h : LI w x m r k E U rc rs) {w' : Wd} {r1 : Rs} (hA : AT w' x m r1 r1) (hn : nE r1 ≤ nE r + 2) {rc' rs' : Nat} (hc : rc ≤ rc' + 4) (hs : rs ≤ rs' + 62) : LI w' x m r1 (k + 1) (max E (nE r1)) U rc' rs' := by
  obtain ⟨-, h1, h2, h3, h4, h5, h6⟩ := h
  have h8 := hA.2.2.2.2.1.2.1.2
  have h9 := hlp_grow (E' := max E (nE r1)) h3 h4 (by omega) (by omega)
  exact ⟨hA, by omega, by omega, h9.1, h9.2, by omega, by omega⟩
theorem li_sell (h : LI w x m r k E U rc rs) {w' : Wd} {r1 : Rs} (hA : AT w' x m r1 r1) (hn : nE r1 = nE r) {rc' rs' : Nat} (hc : rc = rc' + (nE r + 3)) (hs : rs = rs' + (60 * nE r + 9)) : LI w' x m r1 (k + 1) E (U + E) rc' rs' := by
  obtain ⟨-, h1, h2, h3, h4, h5, h6⟩ := h
  exact ⟨hA, by omega, h2, by omega, hlp_sell h3 h4, by omega, by omega⟩
theorem lw_eI {b b' : Bu} {M M' : Me} {as : List Av} (h : SmI b M b' M' as) (hA : AT w x m r r) {J : Wd → Prop} (hJ : ∀ w2 r1, AT w2 x m r1 r1 → nE r1 ≤ nE r + 2 → J w2) : Ct X b M (vR x :: as) w (qI fun v w1 => wK w1 m = 12 ∧ Ct X b' M' (vR m :: as) w1 (qI fun u w2 => ((v = u) → J w2) ∧ ((¬ v = u) → False))) := by
  refine (h.law X w x m r hA).I ?_
  rintro v w1 ⟨h12, hc⟩
  refine ⟨h12, hc.I ?_⟩
  rintro u w2 ⟨e, r1, hA1, hn⟩
  exact ⟨fun _ => hJ w2 r1 hA1 hn, fun q => q e⟩
theorem lw_eJ {b b' : Bu} {M M' : Me} {as : List Av} (h : SmJ b M b' M' as) (hA : AT w x m r r) {J : Wd → Prop} (hJ : ∀ w2 r1, AT w2 x m r1 r1 → nE r1 ≤ nE r + 2 → J w2) : Ct X b M (vR x :: as) w (qJ fun v w1 => wK w1 m = 12 ∧ Ct X b' M' (vR m :: as) w1 (qJ fun u w2 => (((lg_cmp v u) = 0) → J w2) ∧ ((¬ (lg_cmp v u) = 0) → False))) := by
  refine (h.law X w x m r hA).J ?_
  rintro v w1 ⟨h12, hc⟩
  refine ⟨h12, hc.J ?_⟩
  rintro u w2 ⟨e, r1, hA1, hn⟩
  exact ⟨fun _ => hJ w2 r1 hA1 hn, fun q => q ((lg_eq _ _).mpr e)⟩
theorem lw_sell (f p : Int32) (s c : Int64) (hA : AT w x m r r) {J : Wd → Prop} (hJ : ∀ w2 r1, AT w2 x m r1 r1 → nE r1 = nE r → J w2) : Ct X (7, nE r + 3, 60 * nE r + 9) mX10_sell [vR x, vI f, vI p, vJ s, vJ c] w (qJ fun v w1 => wK w1 m = 12 ∧ Ct X bX11_sell mX11_sell [vR m, vI f, vI p, vJ s, vJ c] w1 (qJ fun u w2 => (((lg_cmp v u) = 0) → J w2) ∧ ((¬ (lg_cmp v u) = 0) → False))) := by
  refine (sm_sell X w x m r f p s c hA).J ?_
  rintro v w1 ⟨r', ⟨hT, hn⟩, hc⟩
  refine ⟨hT.1.1.1, (hc w1 hT.1.2).mono ?_⟩
  rintro y w2 ⟨r1, hW, u, rfl, rfl, hp⟩
  exact ⟨u, rfl, fun _ => hJ w2 r1 (AT_ref hT hW hp) (by rw [hp.Sr.n.2.1]; exact hn), fun q => q ((lg_eq _ _).mpr rfl)⟩
theorem law_cmp {L k : Nat} (hL : L ≤ 4096) (hk : k ≤ 512) : (Int32.ofNat L - 8 < nI (8 * k)) ↔ L < 8 * k + 8 := by
  have e1 : (Int32.ofNat L).toInt = (L : Int) := Int32.toInt_ofNat_of_lt (by omega)
  have e2 : (nI (8 * k)).toInt = ((8 * k : Nat) : Int) := Int32.toInt_ofNat_of_lt (by omega)
  have e8 : (8 : Int32).toInt = 8 := rfl
  rw [Int32.lt_iff_toInt_lt, Int32.toInt_sub, e1, e2, e8, Int.bmod_eq_of_le (by omega) (by omega)]
  omega
theorem nI_ad2 (a b : Nat) : nI a + nI b = nI (a + b) := by
  show Int32.ofNat a + Int32.ofNat b = Int32.ofNat (a + b)
  rw [← Int32.ofNat_add]
end LL
section LM
variable {X : Cx} {b L : Nat} {xs : Nat → Int32} {w : Wd} {x m : Nat} {r : Rs} {k E U rc rs : Nat}
/-- behind the call: the loop's head again -/
abbrev Nx (X : Cx) (b L : Nat) (xs : Nat → Int32) (x m k : Nat) : Prop := ∀ (w : Wd) (r : Rs) (E U rc rs : Nat), LI w x m r (k + 1) E U rc rs → jL_law_18 X b L xs rc rs x m (nI (8 * k) + 8) w
abbrev Vl (k L : Nat) : Prop := vp_in (nI (8 * k) + 1) L ∧ vp_in (nI (8 * k) + 2) L ∧ vp_in (nI (8 * k) + 3) L ∧ vp_in (nI (8 * k) + 4) L ∧ vp_in (nI (8 * k) + 5) L ∧ vp_in (nI (8 * k) + 6) L ∧ vp_in (nI (8 * k) + 7) L
theorem lc_folio (h : LI w x m r k E U rc rs) (hk : k < 512) (hv : Vl k L) (nx : Nx X b L xs x m k) : jL_law_184 X b L xs rc rs x m (nI (8 * k)) w := by
  obtain ⟨v1, v2, v3, v4, v5, v6, v7⟩ := hv
  have hm := li_room h hk
  have hx := h.1.2.2.1.1.1
  refine tL_law_184 X b L xs rc rs x m _ w ⟨v1, rc - 1, rs - 5, ⟨by omega, by omega⟩, hx, (lw_eI (sm_folio _) h.1 (fun w2 r1 a n => ?_)).I (fun v w1 q => ⟨v1, q⟩)⟩
  exact tL_law_1707 X b L xs _ _ x m _ w2 (nx w2 r1 _ _ _ _ (li_step h a n (by omega) (by omega)))
theorem lc_tear (h : LI w x m r k E U rc rs) (hk : k < 512) (hv : Vl k L) (nx : Nx X b L xs x m k) : jL_law_207 X b L xs rc rs x m (nI (8 * k)) w := by
  obtain ⟨v1, v2, v3, v4, v5, v6, v7⟩ := hv
  have hm := li_room h hk
  have hx := h.1.2.2.1.1.1
  refine tL_law_207 X b L xs rc rs x m _ w ⟨v1, v2, hx, (lw_eI (sm_tear _ _) h.1 (fun w2 r1 a n => ?_)).I (fun v w1 q => ⟨v1, v2, q⟩)⟩
  exact tL_law_1707 X b L xs _ _ x m _ w2 (nx w2 r1 _ _ _ _ (li_step h a n (by omega) (by omega)))
theorem lc_day (h : LI w x m r k E U rc rs) (hk : k < 512) (hv : Vl k L) (nx : Nx X b L xs x m k) : jL_law_240 X b L xs rc rs x m (nI (8 * k)) w := by
  obtain ⟨v1, v2, v3, v4, v5, v6, v7⟩ := hv
  have hm := li_room h hk
  have hx := h.1.2.2.1.1.1
  refine tL_law_240 X b L xs rc rs x m _ w ⟨v1, rc - 1, rs - 2, ⟨by omega, by omega⟩, hx, (lw_eI (sm_day _) h.1 (fun w2 r1 a n => ?_)).I (fun v w1 q => ⟨v1, q⟩)⟩
  exact tL_law_1707 X b L xs _ _ x m _ w2 (nx w2 r1 _ _ _ _ (li_step h a n (by omega) (by omega)))
theorem lc_since (h : LI w x m r k E U rc rs) (hk : k < 512) (hv : Vl k L) (nx : Nx X b L xs x m k) : jL_law_263 X b L xs rc rs x m (nI (8 * k)) w := by
  obtain ⟨v1, v2, v3, v4, v5, v6, v7⟩ := hv
  have hm := li_room h hk
  have hx := h.1.2.2.1.1.1
  refine tL_law_263 X b L xs rc rs x m _ w ⟨v1, hx, (lw_eI (sm_since _) h.1 (fun w2 r1 a n => ?_)).I (fun v w1 q => ⟨v1, q⟩)⟩
  exact tL_law_1707 X b L xs _ _ x m _ w2 (nx w2 r1 _ _ _ _ (li_step h a n (by omega) (by omega)))
theorem lc_enter (h : LI w x m r k E U rc rs) (hk : k < 512) (hv : Vl k L) (nx : Nx X b L xs x m k) : jL_law_286 X b L xs rc rs x m (nI (8 * k)) w := by
  obtain ⟨v1, v2, v3, v4, v5, v6, v7⟩ := hv
  have hm := li_room h hk
  have hx := h.1.2.2.1.1.1
  refine tL_law_286 X b L xs rc rs x m _ w ⟨v1, v2, v3, v4, v5, v6, v7, rc - 4, rs - 40, ⟨by omega, by omega⟩, hx, (lw_eI (sm_enter _ _ _ _ _) h.1 (fun w2 r1 a n => ?_)).I (fun v w1 q => ⟨v1, v2, v3, v4, v5, v6, v7, q⟩)⟩
  exact tL_law_1707 X b L xs _ _ x m _ w2 (nx w2 r1 _ _ _ _ (li_step h a n (by omega) (by omega)))
theorem lc_claim (h : LI w x m r k E U rc rs) (hk : k < 512) (hv : Vl k L) (nx : Nx X b L xs x m k) : jL_law_413 X b L xs rc rs x m (nI (8 * k)) w := by
  obtain ⟨v1, v2, v3, v4, v5, v6, v7⟩ := hv
  have hm := li_room h hk
  have hx := h.1.2.2.1.1.1
  refine tL_law_413 X b L xs rc rs x m _ w ⟨v1, v2, v3, rc - 1, rs - 2, ⟨by omega, by omega⟩, hx, (lw_eI (sm_claim _ _ _) h.1 (fun w2 r1 a n => ?_)).I (fun v w1 q => ⟨v1, v2, v3, q⟩)⟩
  exact tL_law_1707 X b L xs _ _ x m _ w2 (nx w2 r1 _ _ _ _ (li_step h a n (by omega) (by omega)))
theorem lc_owe (h : LI w x m r k E U rc rs) (hk : k < 512) (hv : Vl k L) (nx : Nx X b L xs x m k) : jL_law_456 X b L xs rc rs x m (nI (8 * k)) w := by
  obtain ⟨v1, v2, v3, v4, v5, v6, v7⟩ := hv
  have hm := li_room h hk
  have hx := h.1.2.2.1.1.1
  refine tL_law_456 X b L xs rc rs x m _ w ⟨v1, v2, v3, hx, (lw_eI (sm_owe _ _) h.1 (fun w2 r1 a n => ?_)).I (fun v w1 q => ⟨v1, v2, v3, q⟩)⟩
  exact tL_law_1707 X b L xs _ _ x m _ w2 (nx w2 r1 _ _ _ _ (li_step h a n (by omega) (by omega)))
theorem lc_pay (h : LI w x m r k E U rc rs) (hk : k < 512) (hv : Vl k L) (nx : Nx X b L xs x m k) : jL_law_519 X b L xs rc rs x m (nI (8 * k)) w := by
  obtain ⟨v1, v2, v3, v4, v5, v6, v7⟩ := hv
  have hm := li_room h hk
  have hx := h.1.2.2.1.1.1
  refine tL_law_519 X b L xs rc rs x m _ w ⟨v1, v2, v3, hx, (lw_eJ (sm_pay _ _) h.1 (fun w2 r1 a n => ?_)).J (fun v w1 q => ⟨v1, v2, v3, q⟩)⟩
  exact tL_law_1707 X b L xs _ _ x m _ w2 (nx w2 r1 _ _ _ _ (li_step h a n (by omega) (by omega)))
theorem lc_paper (h : LI w x m r k E U rc rs) (hk : k < 512) (hv : Vl k L) (nx : Nx X b L xs x m k) : jL_law_583 X b L xs rc rs x m (nI (8 * k)) w := by
  obtain ⟨v1, v2, v3, v4, v5, v6, v7⟩ := hv
  have hm := li_room h hk
  have hx := h.1.2.2.1.1.1
  have go : ∀ (v : Int32), (v = 0 ∨ v = 1) → Ct X bX10_paper mX10_paper [vR x, vI (xs (nI (8 * k) + 1).toNatClampNeg), vI v] w (qI fun u w1 => wK w1 m = 12 ∧ Ct X bX11_paper mX11_paper [vR m, vI (xs (nI (8 * k) + 1).toNatClampNeg), vI v] w1 (qI fun u' w2 => ((u = u') → jL_law_1707 X b L xs rc rs x m (nI (8 * k)) w2) ∧ ((¬ u = u') → False))) := fun v hv => lw_eI (sm_paper _ v hv) h.1 (fun w2 r1 a n => tL_law_1707 X b L xs _ _ x m _ w2 (nx w2 r1 _ _ _ _ (li_step h a n (by omega) (by omega))))
  refine tL_law_583 X b L xs rc rs x m _ w ⟨v1, v2, fun z => ⟨hx, (go 0 (Or.inl rfl)).I (fun v w1 q => ⟨v1, v2, fun _ => q, fun z' => absurd z z'⟩)⟩, fun z => ⟨hx, (go 1 (Or.inr rfl)).I (fun v w1 q => ⟨v1, v2, fun z' => absurd z' z, fun _ => q⟩)⟩⟩
theorem lc_split (h : LI w x m r k E U rc rs) (hk : k < 512) (hv : Vl k L) (nx : Nx X b L xs x m k) : jL_law_632 X b L xs rc rs x m (nI (8 * k)) w := by
  obtain ⟨v1, v2, v3, v4, v5, v6, v7⟩ := hv
  have hm := li_room h hk
  have hx := h.1.2.2.1.1.1
  refine tL_law_632 X b L xs rc rs x m _ w ⟨v1, v2, v3, rc - 2, rs - 26, ⟨by omega, by omega⟩, hx, (lw_eI (sm_split _ _) h.1 (fun w2 r1 a n => ?_)).I (fun v w1 q => ⟨v1, v2, v3, q⟩)⟩
  exact tL_law_1707 X b L xs _ _ x m _ w2 (nx w2 r1 _ _ _ _ (li_step h a n (by omega) (by omega)))
theorem lc_hand (h : LI w x m r k E U rc rs) (hk : k < 512) (hv : Vl k L) (nx : Nx X b L xs x m k) : jL_law_695 X b L xs rc rs x m (nI (8 * k)) w := by
  obtain ⟨v1, v2, v3, v4, v5, v6, v7⟩ := hv
  have hm := li_room h hk
  have hx := h.1.2.2.1.1.1
  refine tL_law_695 X b L xs rc rs x m _ w ⟨v1, v2, v3, v4, rc - 2, rs - 26, ⟨by omega, by omega⟩, hx, (lw_eI (sm_hand _ _ _) h.1 (fun w2 r1 a n => ?_)).I (fun v w1 q => ⟨v1, v2, v3, v4, q⟩)⟩
  exact tL_law_1707 X b L xs _ _ x m _ w2 (nx w2 r1 _ _ _ _ (li_step h a n (by omega) (by omega)))
theorem lc_post (h : LI w x m r k E U rc rs) (hk : k < 512) (hv : Vl k L) (nx : Nx X b L xs x m k) : jL_law_768 X b L xs rc rs x m (nI (8 * k)) w := by
  obtain ⟨v1, v2, v3, v4, v5, v6, v7⟩ := hv
  have hm := li_room h hk
  have hx := h.1.2.2.1.1.1
  refine tL_law_768 X b L xs rc rs x m _ w ⟨v1, v2, v3, v4, rc - 2, rs - 9, ⟨by omega, by omega⟩, hx, (lw_eI (sm_post _ _ _) h.1 (fun w2 r1 a n => ?_)).I (fun v w1 q => ⟨v1, v2, v3, v4, q⟩)⟩
  exact tL_law_1707 X b L xs _ _ x m _ w2 (nx w2 r1 _ _ _ _ (li_step h a n (by omega) (by omega)))
theorem lc_undo (h : LI w x m r k E U rc rs) (hk : k < 512) (hv : Vl k L) (nx : Nx X b L xs x m k) : jL_law_841 X b L xs rc rs x m (nI (8 * k)) w := by
  obtain ⟨v1, v2, v3, v4, v5, v6, v7⟩ := hv
  have hm := li_room h hk
  have hx := h.1.2.2.1.1.1
  refine tL_law_841 X b L xs rc rs x m _ w ⟨v1, rc - 1, rs - 2, ⟨by omega, by omega⟩, hx, (lw_eI (sm_undo _) h.1 (fun w2 r1 a n => ?_)).I (fun v w1 q => ⟨v1, q⟩)⟩
  exact tL_law_1707 X b L xs _ _ x m _ w2 (nx w2 r1 _ _ _ _ (li_step h a n (by omega) (by omega)))
theorem lc_release (h : LI w x m r k E U rc rs) (hk : k < 512) (hv : Vl k L) (nx : Nx X b L xs x m k) : jL_law_864 X b L xs rc rs x m (nI (8 * k)) w := by
  obtain ⟨v1, v2, v3, v4, v5, v6, v7⟩ := hv
  have hm := li_room h hk
  have hx := h.1.2.2.1.1.1
  refine tL_law_864 X b L xs rc rs x m _ w ⟨v1, v2, rc - 2, rs - 62, ⟨by omega, by omega⟩, hx, (lw_eI (sm_release _ _) h.1 (fun w2 r1 a n => ?_)).I (fun v w1 q => ⟨v1, v2, q⟩)⟩
  exact tL_law_1707 X b L xs _ _ x m _ w2 (nx w2 r1 _ _ _ _ (li_step h a n (by omega) (by omega)))
theorem lc_strike (h : LI w x m r k E U rc rs) (hk : k < 512) (hv : Vl k L) (nx : Nx X b L xs x m k) : jL_law_897 X b L xs rc rs x m (nI (8 * k)) w := by
  obtain ⟨v1, v2, v3, v4, v5, v6, v7⟩ := hv
  have hm := li_room h hk
  have hx := h.1.2.2.1.1.1
  refine tL_law_897 X b L xs rc rs x m _ w ⟨v1, rc - 1, rs - 2, ⟨by omega, by omega⟩, hx, (lw_eI (sm_strike _) h.1 (fun w2 r1 a n => ?_)).I (fun v w1 q => ⟨v1, q⟩)⟩
  exact tL_law_1707 X b L xs _ _ x m _ w2 (nx w2 r1 _ _ _ _ (li_step h a n (by omega) (by omega)))
theorem lc_keep (h : LI w x m r k E U rc rs) (hk : k < 512) (hv : Vl k L) (nx : Nx X b L xs x m k) : jL_law_920 X b L xs rc rs x m (nI (8 * k)) w := by
  obtain ⟨v1, v2, v3, v4, v5, v6, v7⟩ := hv
  have hm := li_room h hk
  have hx := h.1.2.2.1.1.1
  refine tL_law_920 X b L xs rc rs x m _ w ⟨v1, v2, rc - 1, rs - 2, ⟨by omega, by omega⟩, hx, (lw_eI (sm_keep _ _) h.1 (fun w2 r1 a n => ?_)).I (fun v w1 q => ⟨v1, v2, q⟩)⟩
  exact tL_law_1707 X b L xs _ _ x m _ w2 (nx w2 r1 _ _ _ _ (li_step h a n (by omega) (by omega)))
theorem lc_many (h : LI w x m r k E U rc rs) (hk : k < 512) (hv : Vl k L) (nx : Nx X b L xs x m k) : jL_law_953 X b L xs rc rs x m (nI (8 * k)) w := by
  obtain ⟨v1, v2, v3, v4, v5, v6, v7⟩ := hv
  have hm := li_room h hk
  have hx := h.1.2.2.1.1.1
  refine tL_law_953 X b L xs rc rs x m _ w ⟨v1, v2, rc - 1, rs - 5, ⟨by omega, by omega⟩, hx, (lw_eI (sm_many _ _) h.1 (fun w2 r1 a n => ?_)).I (fun v w1 q => ⟨v1, v2, q⟩)⟩
  exact tL_law_1707 X b L xs _ _ x m _ w2 (nx w2 r1 _ _ _ _ (li_step h a n (by omega) (by omega)))
theorem lc_list (h : LI w x m r k E U rc rs) (hk : k < 512) (hv : Vl k L) (nx : Nx X b L xs x m k) : jL_law_986 X b L xs rc rs x m (nI (8 * k)) w := by
  obtain ⟨v1, v2, v3, v4, v5, v6, v7⟩ := hv
  have hm := li_room h hk
  have hx := h.1.2.2.1.1.1
  refine tL_law_986 X b L xs rc rs x m _ w ⟨v1, v2, v3, rc - 1, rs - 5, ⟨by omega, by omega⟩, hx, (lw_eI (sm_list _ _ _) h.1 (fun w2 r1 a n => ?_)).I (fun v w1 q => ⟨v1, v2, v3, q⟩)⟩
  exact tL_law_1707 X b L xs _ _ x m _ w2 (nx w2 r1 _ _ _ _ (li_step h a n (by omega) (by omega)))
theorem lc_rank (h : LI w x m r k E U rc rs) (hk : k < 512) (hv : Vl k L) (nx : Nx X b L xs x m k) : jL_law_1029 X b L xs rc rs x m (nI (8 * k)) w := by
  obtain ⟨v1, v2, v3, v4, v5, v6, v7⟩ := hv
  have hm := li_room h hk
  have hx := h.1.2.2.1.1.1
  refine tL_law_1029 X b L xs rc rs x m _ w ⟨v1, v2, rc - 1, rs - 5, ⟨by omega, by omega⟩, hx, (lw_eI (sm_rank _ _) h.1 (fun w2 r1 a n => ?_)).I (fun v w1 q => ⟨v1, v2, q⟩)⟩
  exact tL_law_1707 X b L xs _ _ x m _ w2 (nx w2 r1 _ _ _ _ (li_step h a n (by omega) (by omega)))
theorem lc_why (h : LI w x m r k E U rc rs) (hk : k < 512) (hv : Vl k L) (nx : Nx X b L xs x m k) : jL_law_1062 X b L xs rc rs x m (nI (8 * k)) w := by
  obtain ⟨v1, v2, v3, v4, v5, v6, v7⟩ := hv
  have hm := li_room h hk
  have hx := h.1.2.2.1.1.1
  refine tL_law_1062 X b L xs rc rs x m _ w ⟨v1, v2, rc - 1, rs - 5, ⟨by omega, by omega⟩, hx, (lw_eI (sm_why _ _) h.1 (fun w2 r1 a n => ?_)).I (fun v w1 q => ⟨v1, v2, q⟩)⟩
  exact tL_law_1707 X b L xs _ _ x m _ w2 (nx w2 r1 _ _ _ _ (li_step h a n (by omega) (by omega)))
theorem lc_as (h : LI w x m r k E U rc rs) (hk : k < 512) (hv : Vl k L) (nx : Nx X b L xs x m k) : jL_law_1095 X b L xs rc rs x m (nI (8 * k)) w := by
  obtain ⟨v1, v2, v3, v4, v5, v6, v7⟩ := hv
  have hm := li_room h hk
  have hx := h.1.2.2.1.1.1
  refine tL_law_1095 X b L xs rc rs x m _ w ⟨v1, v2, v3, v4, rc - 2, rs - 7, ⟨by omega, by omega⟩, hx, (lw_eI (sm_as _ _ _ _) h.1 (fun w2 r1 a n => ?_)).I (fun v w1 q => ⟨v1, v2, v3, v4, q⟩)⟩
  exact tL_law_1707 X b L xs _ _ x m _ w2 (nx w2 r1 _ _ _ _ (li_step h a n (by omega) (by omega)))
theorem lc_choose (h : LI w x m r k E U rc rs) (hk : k < 512) (hv : Vl k L) (nx : Nx X b L xs x m k) : jL_law_1148 X b L xs rc rs x m (nI (8 * k)) w := by
  obtain ⟨v1, v2, v3, v4, v5, v6, v7⟩ := hv
  have hm := li_room h hk
  have hx := h.1.2.2.1.1.1
  refine tL_law_1148 X b L xs rc rs x m _ w ⟨v1, hx, (lw_eI (sm_choose _) h.1 (fun w2 r1 a n => ?_)).I (fun v w1 q => ⟨v1, q⟩)⟩
  exact tL_law_1707 X b L xs _ _ x m _ w2 (nx w2 r1 _ _ _ _ (li_step h a n (by omega) (by omega)))
theorem lc_sale (h : LI w x m r k E U rc rs) (hk : k < 512) (hv : Vl k L) (nx : Nx X b L xs x m k) : jL_law_1171 X b L xs rc rs x m (nI (8 * k)) w := by
  obtain ⟨v1, v2, v3, v4, v5, v6, v7⟩ := hv
  have hm := li_room h hk
  have hx := h.1.2.2.1.1.1
  refine tL_law_1171 X b L xs rc rs x m _ w ⟨v1, v2, v3, v4, v5, v6, rc - 2, rs - 7, ⟨by omega, by omega⟩, hx, (lw_eJ (sm_sale _ _ _ _) h.1 (fun w2 r1 a n => ?_)).J (fun v w1 q => ⟨v1, v2, v3, v4, v5, v6, q⟩)⟩
  exact tL_law_1707 X b L xs _ _ x m _ w2 (nx w2 r1 _ _ _ _ (li_step h a n (by omega) (by omega)))
theorem lc_sell (h : LI w x m r k E U rc rs) (hk : k < 512) (hv : Vl k L) (nx : Nx X b L xs x m k) : jL_law_1287 X b L xs rc rs x m (nI (8 * k)) w := by
  obtain ⟨v1, v2, v3, v4, v5, v6, v7⟩ := hv
  have hm := li_room h hk
  have hx := h.1.2.2.1.1.1
  refine tL_law_1287 X b L xs rc rs x m _ w ⟨v1, v2, v3, v4, v5, v6, nE r + 3, 60 * nE r + 9, rc - (nE r + 3), rs - (60 * nE r + 9), ⟨by omega, by omega⟩, hx, (lw_sell _ _ _ _ h.1 (fun w2 r1 a n => ?_)).J (fun v w1 q => ⟨v1, v2, v3, v4, v5, v6, q⟩)⟩
  exact tL_law_1707 X b L xs _ _ x m _ w2 (nx w2 r1 _ _ _ _ (li_sell h a n (by omega) (by omega)))
theorem lc_share (h : LI w x m r k E U rc rs) (hk : k < 512) (hv : Vl k L) (nx : Nx X b L xs x m k) : jL_law_1403 X b L xs rc rs x m (nI (8 * k)) w := by
  obtain ⟨v1, v2, v3, v4, v5, v6, v7⟩ := hv
  have hm := li_room h hk
  have hx := h.1.2.2.1.1.1
  refine tL_law_1403 X b L xs rc rs x m _ w ⟨v1, hx, (lw_eJ (sm_share _) h.1 (fun w2 r1 a n => ?_)).J (fun v w1 q => ⟨v1, q⟩)⟩
  exact tL_law_1707 X b L xs _ _ x m _ w2 (nx w2 r1 _ _ _ _ (li_step h a n (by omega) (by omega)))
theorem lc_tell (h : LI w x m r k E U rc rs) (hk : k < 512) (hv : Vl k L) (nx : Nx X b L xs x m k) : jL_law_1427 X b L xs rc rs x m (nI (8 * k)) w := by
  obtain ⟨v1, v2, v3, v4, v5, v6, v7⟩ := hv
  have hm := li_room h hk
  have hx := h.1.2.2.1.1.1
  refine tL_law_1427 X b L xs rc rs x m _ w ⟨v1, v2, v3, hx, (lw_eI (sm_tell _ _) h.1 (fun w2 r1 a n => ?_)).I (fun v w1 q => ⟨v1, v2, v3, q⟩)⟩
  exact tL_law_1707 X b L xs _ _ x m _ w2 (nx w2 r1 _ _ _ _ (li_step h a n (by omega) (by omega)))
theorem lc_check (h : LI w x m r k E U rc rs) (hk : k < 512) (hv : Vl k L) (nx : Nx X b L xs x m k) : jL_law_1490 X b L xs rc rs x m (nI (8 * k)) w := by
  obtain ⟨v1, v2, v3, v4, v5, v6, v7⟩ := hv
  have hm := li_room h hk
  have hx := h.1.2.2.1.1.1
  refine tL_law_1490 X b L xs rc rs x m _ w ⟨v1, v2, hx, (lw_eI (sm_check _) h.1 (fun w2 r1 a n => ?_)).I (fun v w1 q => ⟨v1, v2, q⟩)⟩
  exact tL_law_1707 X b L xs _ _ x m _ w2 (nx w2 r1 _ _ _ _ (li_step h a n (by omega) (by omega)))
theorem lc_circle (h : LI w x m r k E U rc rs) (hk : k < 512) (hv : Vl k L) (nx : Nx X b L xs x m k) : jL_law_1543 X b L xs rc rs x m (nI (8 * k)) w := by
  obtain ⟨v1, v2, v3, v4, v5, v6, v7⟩ := hv
  have hm := li_room h hk
  have hx := h.1.2.2.1.1.1
  refine tL_law_1543 X b L xs rc rs x m _ w ⟨v1, hx, (lw_eI (sm_circle _) h.1 (fun w2 r1 a n => ?_)).I (fun v w1 q => ⟨v1, q⟩)⟩
  exact tL_law_1707 X b L xs _ _ x m _ w2 (nx w2 r1 _ _ _ _ (li_step h a n (by omega) (by omega)))
theorem lc_due (h : LI w x m r k E U rc rs) (hk : k < 512) (hv : Vl k L) (nx : Nx X b L xs x m k) : jL_law_1566 X b L xs rc rs x m (nI (8 * k)) w := by
  obtain ⟨v1, v2, v3, v4, v5, v6, v7⟩ := hv
  have hm := li_room h hk
  have hx := h.1.2.2.1.1.1
  refine tL_law_1566 X b L xs rc rs x m _ w ⟨v1, hx, (lw_eJ (sm_due _) h.1 (fun w2 r1 a n => ?_)).J (fun v w1 q => ⟨v1, q⟩)⟩
  exact tL_law_1707 X b L xs _ _ x m _ w2 (nx w2 r1 _ _ _ _ (li_step h a n (by omega) (by omega)))
theorem lc_kind (h : LI w x m r k E U rc rs) (hk : k < 512) (hv : Vl k L) (nx : Nx X b L xs x m k) : jL_law_1590 X b L xs rc rs x m (nI (8 * k)) w := by
  obtain ⟨v1, v2, v3, v4, v5, v6, v7⟩ := hv
  have hm := li_room h hk
  have hx := h.1.2.2.1.1.1
  refine tL_law_1590 X b L xs rc rs x m _ w ⟨v1, v2, hx, (lw_eI (sm_kind _ _) h.1 (fun w2 r1 a n => ?_)).I (fun v w1 q => ⟨v1, v2, q⟩)⟩
  exact tL_law_1707 X b L xs _ _ x m _ w2 (nx w2 r1 _ _ _ _ (li_step h a n (by omega) (by omega)))
theorem lc_sum (h : LI w x m r k E U rc rs) (hk : k < 512) (hv : Vl k L) (nx : Nx X b L xs x m k) : jL_law_1623 X b L xs rc rs x m (nI (8 * k)) w := by
  obtain ⟨v1, v2, v3, v4, v5, v6, v7⟩ := hv
  have hm := li_room h hk
  have hx := h.1.2.2.1.1.1
  refine tL_law_1623 X b L xs rc rs x m _ w ⟨v1, hx, (lw_eJ (sm_sum _) h.1 (fun w2 r1 a n => ?_)).J (fun v w1 q => ⟨v1, q⟩)⟩
  exact tL_law_1707 X b L xs _ _ x m _ w2 (nx w2 r1 _ _ _ _ (li_step h a n (by omega) (by omega)))
theorem lc_parcels (h : LI w x m r k E U rc rs) (hk : k < 512) (hv : Vl k L) (nx : Nx X b L xs x m k) : jL_law_1647 X b L xs rc rs x m (nI (8 * k)) w := by
  obtain ⟨v1, v2, v3, v4, v5, v6, v7⟩ := hv
  have hm := li_room h hk
  have hx := h.1.2.2.1.1.1
  refine tL_law_1647 X b L xs rc rs x m _ w ⟨v1, hx, (lw_eJ (sm_parcels _) h.1 (fun w2 r1 a n => ?_)).J (fun v w1 q => ⟨v1, q⟩)⟩
  exact tL_law_1707 X b L xs _ _ x m _ w2 (nx w2 r1 _ _ _ _ (li_step h a n (by omega) (by omega)))
theorem lc_status (h : LI w x m r k E U rc rs) (hk : k < 512) (hv : Vl k L) (nx : Nx X b L xs x m k) : jL_law_1671 X b L xs rc rs x m (nI (8 * k)) w := by
  obtain ⟨v1, v2, v3, v4, v5, v6, v7⟩ := hv
  have hm := li_room h hk
  have hx := h.1.2.2.1.1.1
  refine tL_law_1671 X b L xs rc rs x m _ w ⟨hx, (lw_eI sm_status h.1 (fun w2 r1 a n => ?_)).I (fun v w1 q => q)⟩
  exact tL_law_1707 X b L xs _ _ x m _ w2 (nx w2 r1 _ _ _ _ (li_step h a n (by omega) (by omega)))
theorem lc_count (h : LI w x m r k E U rc rs) (hk : k < 512) (hv : Vl k L) (nx : Nx X b L xs x m k) : jL_law_1684 X b L xs rc rs x m (nI (8 * k)) w := by
  obtain ⟨v1, v2, v3, v4, v5, v6, v7⟩ := hv
  have hm := li_room h hk
  have hx := h.1.2.2.1.1.1
  refine tL_law_1684 X b L xs rc rs x m _ w ⟨v1, hx, (lw_eI (sm_count _) h.1 (fun w2 r1 a n => ?_)).I (fun v w1 q => ⟨v1, q⟩)⟩
  exact tL_law_1707 X b L xs _ _ x m _ w2 (nx w2 r1 _ _ _ _ (li_step h a n (by omega) (by omega)))
set_option maxRecDepth 100000 in
theorem lc_switch (h : LI w x m r k E U rc rs) (hk : k < 512) (h0 : vp_in (nI (8 * k)) L) (hv : Vl k L) (nx : Nx X b L xs x m k) : jL_law_18 X b L xs rc rs x m (nI (8 * k)) w := by
  refine tL_law_18 X b L xs rc rs x m _ w ⟨fun _ => trivial, fun _ => ⟨h0, fun _ => lc_folio h hk hv nx, fun _ => lc_tear h hk hv nx, fun _ => lc_day h hk hv nx, fun _ => lc_since h hk hv nx, fun _ => lc_enter h hk hv nx, fun _ => lc_claim h hk hv nx, fun _ => lc_owe h hk hv nx, fun _ => lc_pay h hk hv nx, fun _ => lc_paper h hk hv nx, fun _ => lc_split h hk hv nx, fun _ => lc_hand h hk hv nx, fun _ => lc_post h hk hv nx, fun _ => lc_undo h hk hv nx, fun _ => lc_release h hk hv nx, fun _ => lc_strike h hk hv nx, fun _ => lc_keep h hk hv nx, fun _ => lc_many h hk hv nx, fun _ => lc_list h hk hv nx, fun _ => lc_rank h hk hv nx, fun _ => lc_why h hk hv nx, fun _ => lc_as h hk hv nx, fun _ => lc_choose h hk hv nx, fun _ => lc_sale h hk hv nx, fun _ => lc_sell h hk hv nx, fun _ => lc_share h hk hv nx, fun _ => lc_tell h hk hv nx, fun _ => lc_check h hk hv nx, fun _ => lc_circle h hk hv nx, fun _ => lc_due h hk hv nx, fun _ => lc_kind h hk hv nx, fun _ => lc_sum h hk hv nx, fun _ => lc_parcels h hk hv nx, fun _ => lc_status h hk hv nx, fun _ => lc_count h hk hv nx, fun _ _ _ _ _ _ _ _ _ _ _ _ _ _ _ _ _ _ _ _ _ _ _ _ _ _ _ _ _ _ _ _ _ _ => ?_⟩⟩
  exact tL_law_1707 X b L xs _ _ x m _ w (nx w r _ _ _ _ (li_step h h.1 (by omega) (by omega) (by omega)))
theorem lc_loop (hL : L ≤ 4096) : ∀ (n k : Nat), k + n = L / 8 → ∀ (w : Wd) (r : Rs) (E U rc rs : Nat), LI w x m r k E U rc rs → jL_law_18 X b L xs rc rs x m (nI (8 * k)) w := by
  intro n
  induction n with
  | zero =>
    intro k hk w r E U rc rs h
    refine tL_law_18 X b L xs rc rs x m _ w ⟨fun _ => trivial, fun z => absurd ((law_cmp hL (by omega)).mpr (by omega)) z⟩
  | succ n ih =>
    intro k hk w r E U rc rs h
    have hi : ∀ j, j < 8 → vp_in (nI (8 * k) + nI j) L := fun j hj => by rw [nI_ad2]; exact inN (by omega) (by omega)
    refine lc_switch h (by omega) (inN (by omega) (by omega)) ⟨hi 1 (by omega), hi 2 (by omega), hi 3 (by omega), hi 4 (by omega), hi 5 (by omega), hi 6 (by omega), hi 7 (by omega)⟩ (fun w' r' E' U' rc' rs' h' => ?_)
    have e : nI (8 * k) + 8 = nI (8 * (k + 1)) := nI_ad2 (8 * k) 8
    rw [e]
    exact ih (k + 1) (by omega) w' r' E' U' rc' rs' h'
end LM
theorem law_J (X : Cx) (b L : Nat) (xs : Nat → Int32) (hL : L ≤ 4096) : EJ X mL_law (lawV b L xs X.2.2.2) 600000 7302250 0 [(0, vR (b + 1))] [] w00 := by
  refine tL_law_0 X b L xs 600000 7302250 w00 ⟨599999, 7302236, ⟨rfl, rfl⟩, ?_⟩
  rintro x _ x0 w2 rfl
  refine ⟨599994, 7301790, ⟨rfl, rfl⟩, (c_init10 x x0).V ?_⟩
  rintro V hV
  refine ⟨599993, 7301725, ⟨rfl, rfl⟩, ?_⟩
  rintro m hm m0 w12 rfl
  refine ⟨599944, 7250418, ⟨rfl, rfl⟩, (c_init11 V hV.1 m hm m0).V ?_⟩
  rintro w hw
  have hA := AT_0 hV hw
  exact lc_loop hL (L / 8) 0 (by omega) w r00 0 0 _ _ ⟨hA, Nat.le_refl _, by omega, by omega, by omega, by omega, by omega⟩
theorem whole_start {p : Program} {e : Env} {s : State} {m : MethodId} {below : List Frame} {meth : Method} {c : Code} (l : Launch) {b L : Nat} {xs : Nat → Int32} (hL : L ≤ 4096) (C0 : lw_At p s m meth c b L xs) : W p l e room_1 s m #[Value.ref b] below meth c s.heap [] 0 0 (lw_Z below #[Value.ref b] s) (entryFrame m ([Value.ref b] : List Value).toArray 4) := whole_of (fun X b L xs h => law_J X b L xs h) l hL C0
