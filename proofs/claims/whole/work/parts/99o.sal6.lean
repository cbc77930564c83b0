/-! ===== the sale: the reference ===== -/
def Fg (J : Nat) (r r' : Rs) : Prop := (∀ k, k ≠ 48 → sS r' k = sS r k) ∧ sO r' = sO r ∧ (∀ k, k ≠ 47 → rI r' k = rI r k) ∧ (∀ k, k ≠ J → rJ r' k = rJ r k)
theorem Fg.rf (J : Nat) (r : Rs) : Fg J r r := ⟨fun _ _ => rfl, rfl, fun _ _ => rfl, fun _ _ => rfl⟩
theorem Fg.tr {J : Nat} {a b c : Rs} (h : Fg J a b) (g : Fg J b c) : Fg J a c := ⟨fun k z => (g.1 k z).trans (h.1 k z), g.2.1.trans h.2.1, fun k z => (g.2.2.1 k z).trans (h.2.2.1 k z), fun k z => (g.2.2.2 k z).trans (h.2.2.2 k z)⟩
theorem Fg.uJ {J : Nat} {r r' : Rs} (h : Fg J r r') (i : Nat) (v : Int64) : Fg J r (uJ r' J i v) := ⟨h.1, h.2.1, h.2.2.1, fun k z => by
  rw [← h.2.2.2 k z]; funext j; rw [(R_uJ r' J i v).2.2.2, if_neg (fun q => z q.1)]⟩
theorem fg_Pe {J : Nat} {r0 r r' : Rs} (h : Fg J r r') (hJ : scJ J = true) (hp : Pe r0 r) : Pe r0 r' := hp.tr ⟨fun k hk => h.1 k (fun e => by rw [e] at hk; cases hk), h.2.1, fun k hk => h.2.2.1 k (fun e => by rw [e] at hk; cases hk), fun k hk => h.2.2.2 k (fun e => by rw [e, hJ] at hk; cases hk)⟩
def Le (r : Rs) (e : Nat) (r' : Rs) : Prop := sS r' 48 = nI (lvs (fiR r) e).length ∧ ∀ j, j < (lvs (fiR r) e).length → rI r' 47 j = nI ((lvs (fiR r) e).getD j 0)
theorem fg_setL (J : Nat) (r : Rs) (e : Nat) (hl : (lvs (fiR r) e).length < 2 ^ 31) : Fg J r (setL r e) ∧ Le r e (setL r e) := by
  refine ⟨⟨fun k z => ?_, ?_, fun k z => ?_, fun k _ => by rw [sL_J]⟩, sL_48 r e, fun j hj => sL_47 r e hl hj⟩
  · unfold setL; rw [addL_S _ _ k z, (R_uS r 48 0).2.2.2, if_neg z]
  · unfold setL; rw [(addL_J _ _).2]; rfl
  · unfold setL; rw [addL_I _ _ k z]; rfl
section RS
variable {X : Cx} {w0 : Wd} {m : Nat} {r : Rs}
/-- leaves at hand, by place -/
theorem le_at {r1 : Rs} (hp : Pe r r1) (hI : RI r) {e : Nat} (e1 : 1 ≤ e) (e2 : e ≤ nE r) : (lvs (fiR r1) e) = lvs (fiR r) e ∧ (lvs (fiR r) e).length ≤ 300 ∧ ∀ j, j < (lvs (fiR r) e).length → 1 ≤ (lvs (fiR r) e).getD j 0 ∧ (lvs (fiR r) e).getD j 0 ≤ nE r ∧ (lvs (fiR r) e).getD j 0 ∈ lvs (fiR r) e := by
  have H := HT_of hI.1 hI.2.2.2.1
  have hl := lvs_len H e1 e2
  have hN := hI.1.2.1.2
  refine ⟨by rw [hp.fi], by omega, fun j hj => ?_⟩
  have hm : (lvs (fiR r) e).getD j 0 ∈ lvs (fiR r) e := by simp [List.getD, hj]
  have := lvs_mem H e e1 e2 _ hm
  exact ⟨by omega, this.2.2.2, hm⟩
theorem drop_cons {l t : List Nat} {i y : Nat} (h : l.drop i = y :: t) : i < l.length ∧ l.getD i 0 = y ∧ l.drop (i + 1) = t := by
  have h1 : i < l.length := by
    rcases Nat.lt_or_ge i l.length with h2 | h2
    · exact h2
    · rw [List.drop_eq_nil_iff.mpr h2] at h; cases h
  refine ⟨h1, ?_, by rw [← List.drop_drop, h]; rfl⟩
  have h3 : l[i]? = some y := by rw [← List.head?_drop, h]; rfl
  simp [List.getD, h3]
theorem s_duesF (hS : Sh w0 m) (hI : RI r) {r1 : Rs} (hp : Pe r r1) {k : Nat} (k1 : 1 ≤ k) (k2 : k ≤ nE r) (k3 : paR r k = 0) : CM X w0 m bX11_dues mX11_dues [vI (nI k)] r1 (pV fun r2 => Fg 49 r1 r2 ∧ Le r k r2 ∧ ∀ y ∈ lvs (fiR r) k, rJ r2 49 y = dvs (dueF r k) (rJ r 8) 0 0 (lvs (fiR r) k) y) := by
  have hN := hI.1.2.1.2
  obtain ⟨el, hl, hat⟩ := le_at hp hI k1 k2
  have hI1 := RI_mv hp hI
  have hnd := lvs_nodup (HT_of hI.1 hI.2.2.2.1) k k1 k2
  have hwk := (hI.2.2.2.1 k k1 k2).2.1.2.2.2.1.mp k3
  refine pX11_dues X w0 m hS _ _ r1 ((s_leavesOf hS r1 hI1.1 hI1.2.2.2.1 k k1 (by rw [hp.nn.2.1]; exact k2)).V ?_)
  rintro r2 rfl
  obtain ⟨g0, le0⟩ := fg_setL 49 r1 k (by rw [el]; omega)
  have le0' : Le r k (setL r1 k) := by unfold Le at *; rw [el] at le0; exact le0
  have key : ∀ (t : List Nat) (i : Nat) (s d : Int64) (r' : Rs), (lvs (fiR r) k).drop i = t → i ≤ (lvs (fiR r) k).length → Fg 49 r1 r' → Le r k r' → ∀ A : Rs → Prop, (∀ r2, Fg 49 r1 r2 → Le r k r2 → (∀ y ∈ t, rJ r2 49 y = dvs (dueF r k) (rJ r 8) s d t y) → (∀ y, y ∉ t → rJ r2 49 y = rJ r' 49 y) → A r2) → iX11_dues_13 X w0 m A (nI k) s d (nI i) r' := by
    intro t
    induction t with
    | nil =>
      intro i s d r' ht hi hF hL A hA
      have hi2 : (lvs (fiR r) k).length ≤ i := List.drop_eq_nil_iff.mp ht
      refine rX11_dues_13 X w0 m hS _ _ _ _ _ _ ?_
      rw [hL.1, nI_leI (by omega) (by omega)]
      exact ⟨fun _ => hA _ hF hL (fun y hy => (by cases hy)) (fun _ _ => rfl), fun q => absurd hi2 q⟩
    | cons y t ih =>
      intro i s d r' ht hi hF hL A hA
      obtain ⟨hi2, hy, ht2⟩ := drop_cons ht
      have hyb := hat i hi2
      rw [hy] at hyb
      have hyt : y ∉ t := by
        have : (y :: t).Nodup := by rw [← ht]; exact hnd.sublist (List.drop_sublist _ _)
        exact (List.nodup_cons.mp this).1
      have hP : Pe r r' := fg_Pe hF rfl hp
      refine rX11_dues_13 X w0 m hS _ _ _ _ _ _ ?_
      rw [hL.1, nI_leI (by omega) (by omega), nI_clamp (show i < 2 ^ 31 by omega), hL.2 i hi2, hy, nI_clamp (show y < 2 ^ 31 by omega), hP.2.2.2 8 rfl, nI_1]
      have hyr : rI r' 3 k ≠ 5 → rI r' 21 k = 2 := by
        rw [hP.2.2.1 3 rfl, hP.2.2.1 21 rfl]
        have := (hI.2.2.2.1 k k1 k2).2.2.2.1.2.2.2.2.2
        rw [hwk] at this
        exact this
      refine ⟨fun q => absurd hi2 (by omega), fun _ => ⟨inN (by omega) (by omega), inN (by omega) (by omega), (s_dueOfSum hS r' k (by omega) hyr _).J ?_⟩⟩
      rintro v r2 ⟨rfl, rfl⟩
      rw [hL.2 i hi2, hy, nI_clamp (show y < 2 ^ 31 by omega), hP.due]
      refine ⟨inN (by omega) (by omega), inN (by omega) (by omega), ?_⟩
      rintro r3 rfl
      refine ih (i + 1) _ _ _ ht2 (by omega) (hF.uJ y _) hL A (fun r4 q1 q1' q2 q3 => hA _ q1 q1' (fun z hz => ?_) (fun z hz => ?_))
      · by_cases hzy : z = y
        · subst hzy
          rw [q3 z hyt]
          show (if 49 = 49 ∧ z = z then _ else _) = _
          simp [dvs]
        · rw [dvs, if_neg hzy]
          exact q2 z ((List.mem_cons.mp hz).resolve_left hzy)
      · have h1 : z ≠ y := fun e => hz (by rw [e]; exact List.mem_cons_self)
        rw [q3 z (fun e => hz (List.mem_cons_of_mem _ e))]
        show (if 49 = 49 ∧ z = y then _ else rJ r2 49 z) = _
        rw [if_neg (fun e => h1 e.2)]
  exact key _ 0 0 0 (setL r1 k) rfl (Nat.zero_le _) g0 le0' _ (fun r4 q1 q2 q3 _ => ⟨q1, q2, q3⟩)
/-- dues d, what was got h, who counts -/
def Go (r : Rs) (d h : Nat → Int64) (c : Nat → Bool) (r1 : Rs) : Prop := ∀ y, 1 ≤ y → y ≤ nE r → rJ r1 60 y = d y ∧ rJ r1 59 y = h y ∧ rI r1 61 y = bI (c y)
/-- the order stands -/
def Os (r : Rs) (p f : Nat) (r1 : Rs) : Prop := PlR r (sS r 39) (sS r 39) (PLs r (sS r 39) (sS r 39) p f) r1 ∧ OrF r (ordS r (sS r 39) (sS r 39) p f).1 (ordS r (sS r 39) (sS r 39) p f).2 r1
theorem Os.mv {p f : Nat} {r1 r2 : Rs} (h : Os r p f r1) (hp : Pe r r2) (h45 : sS r2 45 = sS r1 45) (h46 : sS r2 46 = sS r1 46) (h57 : sS r2 57 = sS r1 57) (h58 : sS r2 58 = sS r1 58) (h53 : rI r2 53 = rI r1 53) (h54 : rI r2 54 = rI r1 54) (h55 : rI r2 55 = rI r1 55) (h56 : rI r2 56 = rI r1 56) : Os r p f r2 := by
  obtain ⟨⟨⟨a, b, c⟩, d, e⟩, g, i, j⟩ := h
  refine ⟨⟨⟨hp, by rw [h45]; exact b, by rw [h46]; exact c⟩, by rw [h57]; exact d, fun k hk => ?_⟩, by rw [h58]; exact g, fun k hk => by rw [h55]; exact i k hk, fun o ho => by rw [h56]; exact j o ho⟩
  have := e k hk
  unfold PlE at *; rw [h53, h54]; exact this
theorem Os.fg {p f J : Nat} {r1 r2 : Rs} (h : Os r p f r1) (hF : Fg J r1 r2) (hJ : scJ J = true) : Os r p f r2 := h.mv (fg_Pe hF hJ h.1.1.1) (hF.1 45 (by decide)) (hF.1 46 (by decide)) (hF.1 57 (by decide)) (hF.1 58 (by decide)) (hF.2.2.1 53 (by decide)) (hF.2.2.1 54 (by decide)) (hF.2.2.1 55 (by decide)) (hF.2.2.1 56 (by decide))
def cB (r : Rs) (p y : Nat) : Bool := !(offB r (sS r 39) (sS r 39) p y)
theorem s_readyLoop (hS : Sh w0 m) (hI : RI r) {p f : Nat} (hp : p < 60) {k : Nat} (hk : inR r p f k) (i0 : Int32) (A : Rs → Prop) (c : Nat → Bool) (d : Nat → Int64) : ∀ (t : List Nat) (i : Nat) (r1 : Rs), (lvs (fiR r) k).drop i = t → i ≤ (lvs (fiR r) k).length → Os r p f r1 → Le r k r1 → (∀ y ∈ lvs (fiR r) k, rJ r1 49 y = dvs (dueF r k) (rJ r 8) 0 0 (lvs (fiR r) k) y) → Go r (fun y => if y ∈ lvs (fiR r) k ∧ y ∉ t then duS r p y else d y) (fun _ => 0) (fun y => if y ∈ lvs (fiR r) k ∧ y ∉ t then cB r p y else c y) r1 →
    (∀ r2, Os r p f r2 → Go r (fun y => if y ∈ lvs (fiR r) k then duS r p y else d y) (fun _ => 0) (fun y => if y ∈ lvs (fiR r) k then cB r p y else c y) r2 → iX11_prepare_39 X w0 m A (nI p) (i0 + 1) r2) → iX11_prepare_59 X w0 m A (nI p) i0 (nI i) r1 := by
  obtain ⟨k1, k2, k3, -⟩ := inR_k hI hk
  have hnd := lvs_nodup (HT_of hI.1 hI.2.2.2.1) k k1 k2
  have hN := hI.1.2.1.2
  intro t
  induction t with
  | nil =>
    intro i r1 ht hi hO hL h49 hG h
    obtain ⟨el, hl, hat⟩ := le_at hO.1.1.1 hI k1 k2
    have hi2 : (lvs (fiR r) k).length ≤ i := List.drop_eq_nil_iff.mp ht
    refine rX11_prepare_59 X w0 m hS _ _ _ _ r1 ?_
    rw [hL.1, nI_leI (by omega) (by omega)]
    refine ⟨fun _ => h r1 hO (fun y y1 y2 => ?_), fun q => absurd hi2 q⟩
    have := hG y y1 y2
    simpa using this
  | cons y t ih =>
    intro i r1 ht hi hO hL h49 hG h
    obtain ⟨el, hl, hat⟩ := le_at hO.1.1.1 hI k1 k2
    obtain ⟨hi2, hy, ht2⟩ := drop_cons ht
    have hyb := hat i hi2
    rw [hy] at hyb
    have hyt : y ∉ t := by
      have : (y :: t).Nodup := by rw [← ht]; exact hnd.sublist (List.drop_sublist _ _)
      exact (List.nodup_cons.mp this).1
    have hP := hO.1.1.1
    have hI1 := RI_mv hP hI
    have hvy : vp_in (nI y) 301 := inN (by omega) (by decide)
    have so := s_isOff (X := X) hS r1 hI1.1 hI1.2.2.2.1 p y hp (by rw [hP.nn.2.1]; exact hyb.2.1)
    rw [hO.1.1.2.1, hO.1.1.2.2, hP.off] at so
    refine rX11_prepare_59 X w0 m hS _ _ _ _ r1 ?_
    rw [hL.1, nI_leI (by omega) (by omega), nI_clamp (show i < 2 ^ 31 by omega), hL.2 i hi2, hy, nI_clamp (show y < 2 ^ 31 by omega), nI_1]
    refine ⟨fun q => absurd hi2 (by omega), fun _ => ⟨inN (by omega) (by decide), so.I ?_⟩⟩
    rintro v r2 ⟨rfl, rfl⟩
    -- behind the two writes
    have go : ∀ (cv : Int32) (dv : Int64), cv = bI (cB r p y) → dv = duS r p y → iX11_prepare_59 X w0 m A (nI p) i0 (nI (i + 1)) (uJ (uI r2 61 y cv) 60 y dv) := by
      rintro cv dv rfl rfl
      refine ih (i + 1) _ ht2 (by omega) (hO.mv ((hP.uI 61 _ _ rfl).uJ 60 _ _ rfl) rfl rfl rfl rfl rfl rfl rfl rfl) hL h49 (fun z z1 z2 => ?_) h
      have hz := hG z z1 z2
      have u60 : rJ (uJ (uI r2 61 y (bI (cB r p y))) 60 y (duS r p y)) 60 z = if z = y then duS r p y else rJ r2 60 z := by simp [R_uJ, R_uI]
      have u59 : rJ (uJ (uI r2 61 y (bI (cB r p y))) 60 y (duS r p y)) 59 z = rJ r2 59 z := by simp [R_uJ, R_uI]
      have u61 : rI (uJ (uI r2 61 y (bI (cB r p y))) 60 y (duS r p y)) 61 z = if z = y then bI (cB r p y) else rI r2 61 z := by simp [R_uJ, R_uI]
      rw [u60, u59, u61]
      by_cases hzy : z = y
      · have hc : z ∈ lvs (fiR r) k ∧ z ∉ t := by rw [hzy]; exact ⟨hyb.2.2, hyt⟩
        rw [if_pos hzy, if_pos hzy]
        refine ⟨?_, hz.2.1, ?_⟩
        · show _ = if _ then _ else _; rw [if_pos hc, hzy]
        · show _ = bI (if _ then _ else _); rw [if_pos hc, hzy]
      · rw [if_neg hzy, if_neg hzy]
        have e : (z ∈ lvs (fiR r) k ∧ z ∉ t) ↔ (z ∈ lvs (fiR r) k ∧ z ∉ y :: t) := by
          constructor
          · rintro ⟨a, b⟩; exact ⟨a, fun q => by rcases List.mem_cons.mp q with u | u; exact hzy u; exact b u⟩
          · rintro ⟨a, b⟩; exact ⟨a, fun q => b (List.mem_cons_of_mem _ q)⟩
        refine ⟨?_, hz.2.1, ?_⟩
        · rw [hz.1]
          show (if _ then _ else _) = if _ then _ else _
          by_cases hc : z ∈ lvs (fiR r) k ∧ z ∉ t
          · rw [if_pos hc, if_pos (e.mp hc)]
          · rw [if_neg hc, if_neg (fun q => hc (e.mpr q))]
        · rw [hz.2.2]
          show bI (if _ then _ else _) = bI (if _ then _ else _)
          by_cases hc : z ∈ lvs (fiR r) k ∧ z ∉ t
          · rw [if_pos hc, if_pos (e.mp hc)]
          · rw [if_neg hc, if_neg (fun q => hc (e.mpr q))]
    have ed : duS r p y = if offB r (sS r 39) (sS r 39) p y = true then 0 else dvs (dueF r k) (rJ r 8) 0 0 (lvs (fiR r) k) y := by
      unfold duS; rw [(lv_wh hI k1 k2 k3 hyb.2.2).1]
    refine ⟨fun z => ⟨hvy, ?_⟩, fun z => ⟨hvy, ?_⟩⟩
    · rw [bI_n] at z
      rintro r8 rfl
      have e61 : rI (uI r2 61 y 0) 61 y = 0 := by simp [R_uI]
      rw [e61]
      refine ⟨hvy, fun _ => ⟨hvy, ?_⟩, fun q => absurd rfl q⟩
      rintro r13 rfl
      exact go 0 0 (by unfold cB; rw [z]; rfl) (by rw [ed, if_pos z])
    · rw [bI_0] at z
      rintro r20 rfl
      have e61 : rI (uI r2 61 y 1) 61 y = 1 := by simp [R_uI]
      have e49 : rJ (uI r2 61 y 1) 49 y = dvs (dueF r k) (rJ r 8) 0 0 (lvs (fiR r) k) y := h49 y hyb.2.2
      rw [e61, e49]
      refine ⟨hvy, fun q => absurd q (by decide), fun _ => ⟨hvy, hvy, ?_⟩⟩
      rintro r29 rfl
      exact go 1 _ (by unfold cB; rw [z]; rfl) (by rw [ed, if_neg (by rw [z]; decide)])
theorem s_prepare (hS : Sh w0 m) (hI : RI r) {p f : Nat} (hp : p < 60) {r1 : Rs} (hO : Os r p f r1) : CM X w0 m bX11_prepare mX11_prepare [vI (nI p)] r1 (pV fun r2 => Os r p f r2 ∧ Go r (dS r p f) (fun _ => 0) (fun y => rkd r p f y && cB r p y) r2) := by
  have hN := hI.1.2.1.2
  have hOk := ordS_ok (r := r) (dy := sS r 39) (as := sS r 39) (p := p) (f := f) hI
  obtain ⟨hin, hlen⟩ := hOk.in hI
  -- the loop over the order
  have ord : ∀ (T : List Nat) (i : Nat) (r2 : Rs), (ordS r (sS r 39) (sS r 39) p f).1.drop i = T → i ≤ (ordS r (sS r 39) (sS r 39) p f).1.length → Os r p f r2 → Go r (fun y => if rkd r p f y = true ∧ whR r y ∉ T then duS r p y else 0) (fun _ => 0) (fun y => if rkd r p f y = true ∧ whR r y ∉ T then cB r p y else false) r2 → iX11_prepare_39 X w0 m (fun r2 => Os r p f r2 ∧ Go r (dS r p f) (fun _ => 0) (fun y => rkd r p f y && cB r p y) r2) (nI p) (nI i) r2 := by
    intro T
    induction T with
    | nil =>
      intro i r2 ht hi hO2 hG
      have hi2 : (ordS r (sS r 39) (sS r 39) p f).1.length ≤ i := List.drop_eq_nil_iff.mp ht
      refine rX11_prepare_39 X w0 m hS _ _ _ r2 ?_
      rw [hO2.2.1, nI_leI (by omega) (by omega)]
      refine ⟨fun _ => ⟨hO2, fun y y1 y2 => ?_⟩, fun q => absurd hi2 q⟩
      have := hG y y1 y2
      unfold dS
      cases hr : rkd r p f y with
      | true => simp [hr] at this ⊢; exact this
      | false => simp [hr] at this ⊢; exact this
    | cons k T ih =>
      intro i r2 ht hi hO2 hG
      obtain ⟨hi2, hk, ht2⟩ := drop_cons ht
      have hkm : inR r p f k := by
        show k ∈ _
        rw [← hk]; simp [List.getD, hi2]
      obtain ⟨k1, k2, k3, -⟩ := inR_k hI hkm
      have hkT : k ∉ T := by
        have : (k :: T).Nodup := by rw [← ht]; exact hOk.1.sublist (List.drop_sublist _ _)
        exact (List.nodup_cons.mp this).1
      refine rX11_prepare_39 X w0 m hS _ _ _ r2 ?_
      rw [hO2.2.1, nI_leI (by omega) (by omega), nI_clamp (show i < 2 ^ 31 by omega), hO2.2.2.1 i hi2, hk]
      refine ⟨fun q => absurd hi2 (by omega), fun _ => ⟨inN (by omega) (by decide), (s_duesF hS hI hO2.1.1.1 k1 k2 k3).V ?_⟩⟩
      rintro r3 ⟨g1, g2, g3⟩
      have hO3 := hO2.fg g1 rfl
      refine s_readyLoop hS hI hp hkm (nI i) _ (fun y => if rkd r p f y = true ∧ whR r y ∉ k :: T then cB r p y else false) (fun y => if rkd r p f y = true ∧ whR r y ∉ k :: T then duS r p y else 0) (lvs (fiR r) k) 0 r3 rfl (Nat.zero_le _) hO3 g2 g3 (fun y y1 y2 => ?_) (fun r4 hO4 hG4 => ?_)
      · have := hG y y1 y2
        rw [g1.2.2.2 60 (by decide), g1.2.2.2 59 (by decide), g1.2.2.1 61 (by decide)]
        have e : ¬ (y ∈ lvs (fiR r) k ∧ y ∉ lvs (fiR r) k) := fun q => q.2 q.1
        simp only [if_neg e]
        exact this
      · rw [nI_1]
        refine ih (i + 1) r4 ht2 (by omega) hO4 (fun y y1 y2 => ?_)
        have h4 := hG4 y y1 y2
        by_cases hy : y ∈ lvs (fiR r) k
        · have hw := lv_wh hI k1 k2 k3 hy
          have hc : rkd r p f y = true ∧ whR r y ∉ T := ⟨rkd_lv hI hkm hy, by rw [hw.1]; exact hkT⟩
          simp only [if_pos hy] at h4
          simp only [if_pos hc]
          exact h4
        · simp only [if_neg hy] at h4
          have e : (rkd r p f y = true ∧ whR r y ∉ T) ↔ (rkd r p f y = true ∧ whR r y ∉ k :: T) := by
            constructor
            · rintro ⟨a, b⟩
              refine ⟨a, fun q => ?_⟩
              rcases List.mem_cons.mp q with u | u
              · exact hy (by rw [← u]; exact lvs_wh hI y1 y2 (rkd_iff.mp a).1)
              · exact b u
            · rintro ⟨a, b⟩; exact ⟨a, fun q => b (List.mem_cons_of_mem _ q)⟩
          by_cases hc : rkd r p f y = true ∧ whR r y ∉ T
          · simp only [if_pos (e.mp hc)] at h4
            simp only [if_pos hc]; exact h4
          · simp only [if_neg (fun q => hc (e.mpr q))] at h4
            simp only [if_neg hc]; exact h4
  have clr0 : ∀ (n e : Nat) (r2 : Rs), e + n = nE r + 1 → 1 ≤ e → Os r p f r2 → (∀ y, 1 ≤ y → y < e → rJ r2 60 y = 0 ∧ rJ r2 59 y = 0 ∧ rI r2 61 y = 0) → iX11_prepare_2 X w0 m (fun r2 => Os r p f r2 ∧ Go r (dS r p f) (fun _ => 0) (fun y => rkd r p f y && cB r p y) r2) (nI p) (nI e) r2 := by
    intro n
    induction n with
    | zero =>
      intro e r2 he h1 hO2 hz
      refine rX11_prepare_2 X w0 m hS _ _ _ r2 ⟨fun _ => ?_, fun z => ?_⟩
      · refine ord _ 0 r2 rfl (Nat.zero_le _) hO2 (fun y y1 y2 => ?_)
        have h := hz y y1 (by omega)
        have e : ¬ (rkd r p f y = true ∧ whR r y ∉ (ordS r (sS r 39) (sS r 39) p f).1) := fun q => q.2 (rkd_iff.mp q.1).2
        simp only [List.drop_zero, if_neg e]
        exact ⟨h.1, h.2.1, h.2.2⟩
      · rw [hO2.1.1.1.1 30 rfl, hI.1.2.1.1] at z
        exact absurd (nI_lt (show nE r < e by omega) (by omega)) z
    | succ n ih =>
      intro e r2 he h1 hO2 hz
      have hv : vp_in (nI e) 301 := inN (by omega) (by decide)
      refine rX11_prepare_2 X w0 m hS _ _ _ r2 ⟨fun z => ?_, fun _ => ?_⟩
      · rw [hO2.1.1.1.1 30 rfl, hI.1.2.1.1] at z
        have := (nI_ltI (by omega) (by omega)).mp z; omega
      rw [nI_clamp (show e < 2 ^ 31 by omega), nI_1]
      refine ⟨hv, ?_⟩
      rintro r3 rfl
      refine ⟨hv, ?_⟩
      rintro r6 rfl
      refine ⟨hv, ?_⟩
      rintro r9 rfl
      refine ih (e + 1) _ (by omega) (by omega) (hO2.mv (((hO2.1.1.1.uJ 59 _ _ rfl).uJ 60 _ _ rfl).uI 61 _ _ rfl) rfl rfl rfl rfl rfl rfl rfl rfl) (fun y y1 y2 => ?_)
      have u60 : rJ (uI (uJ (uJ r2 59 e 0) 60 e 0) 61 e 0) 60 y = if y = e then 0 else rJ r2 60 y := by simp [R_uJ, R_uI]
      have u59 : rJ (uI (uJ (uJ r2 59 e 0) 60 e 0) 61 e 0) 59 y = if y = e then 0 else rJ r2 59 y := by simp [R_uJ, R_uI]
      have u61 : rI (uI (uJ (uJ r2 59 e 0) 60 e 0) 61 e 0) 61 y = if y = e then 0 else rI r2 61 y := by simp [R_uJ, R_uI]
      rw [u60, u59, u61]
      by_cases hy : y = e
      · simp [hy]
      · simp only [if_neg hy]; exact hz y y1 (by omega)
  exact pX11_prepare X w0 m hS _ (nI p) r1 (clr0 (nE r) 1 r1 (by omega) (by omega) hO (fun y y1 y2 => by omega))
end RS
