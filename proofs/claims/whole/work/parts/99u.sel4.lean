/-! ===== sell: carried out ===== -/
section U1
variable {X : Cx} {x m : Nat} {r0 r : Rs} {p f rq sq mo qa : Nat} {V : Wd}
set_option maxHeartbeats 2000000 in
theorem c_setLoop (hV : AT V x m r0 r) (hp : p < 60) (hsz : p < ix r 0 f) {h : Nat → Int64} (hB : HB r p f h) (hC : CO V x r p f rq mo sq qa (dS r p f) h) {k : Nat} (hk : inR r p f k) {K : Nat → Bool} (hK : K k = true) (A : Wd → Prop) (mc ms : Nat) : ∀ (l : List Nat), (∀ y ∈ l, y ∈ lvs (fiR r) k) → l.Nodup → ∀ (rc rs a : Nat) (w : Wd) (P : Nat → Bool), l.length ≤ rc → 60 * l.length ≤ rs → Fe V w → AT (Tm w (wR V 9 3 (wA V x k)) (sS r 39)) x m r0 (slS r p (nwS r (dS r p f) h) P K K) → PP r p f P → (∀ y ∈ l, P y = false) → Lk (wR V 2 8) a (l.map (eA V x)) →
    (∀ w' P', Fe V w' → AT (Tm w' (wR V 9 3 (wA V x k)) (sS r 39)) x m r0 (slS r p (nwS r (dS r p f) h) P' K K) → PP r p f P' → (∀ z, P' z = true ↔ P z = true ∨ (z ∈ l ∧ cB r p z = true)) → A w') → jX7_settleLeaves_5 X A mc ms rc rs sq (wA V x k) qa a w := by
  have hI := hV.2.2.2.2
  obtain ⟨k1, k2, k3, k4, k6, kc, kl⟩ := inR_k hI hk
  have hW := hV.2.2.2.1.2.2.1 k k1 k2 k3
  have ht := today_ne hI.2.2.2.2.2
  intro l
  induction l with
  | nil =>
    intro _ _ rc rs a w P _ _ hF hA hP _ hk' hh
    have : a = 0 := hk'
    subst this
    exact tX7_settleLeaves_5 X _ _ _ _ _ _ _ _ _ w ⟨fun _ => hh w P hF hA hP (fun z => by simp), fun z => absurd rfl z⟩
  | cons y l ih =>
    intro hl nd rc rs a w P hrc hrs hF hA hP hPl hk' hh
    obtain ⟨rfl, hn, hk'⟩ := Lk_cons hk'
    obtain ⟨n1, n2⟩ := List.nodup_cons.mp nd
    have hyk := hl y List.mem_cons_self
    obtain ⟨y0, y1, y2, y3⟩ := lv_wh hI k1 k2 k3 hyk
    have hry := rkd_lv hI hk hyk
    have hl' : ∀ z ∈ l, z ∈ lvs (fiR r) k := fun z hz => hl z (List.mem_cons_of_mem _ hz)
    have hPy := hPl y List.mem_cons_self
    have hCy := hV.2.2.2.1.2.1 y y1 y2
    have fq := hF.2 sq (kz hC.1.2.1)
    have frq := hF.2 rq (kz hC.1.1.1.1)
    have fy := hF.2 (eA V x y) (kz hCy.1.1)
    have fk := hF.2 (wA V x k) (kz hW.1.1)
    have ft := hF.2 (wR V 9 3 (wA V x k)) (kz hW.2.2.1.1)
    have fqa := hF.2 qa (kz hC.2.2.1)
    have fmo := hF.2 mo (kz hC.1.1.2.1)
    have hee := (fe_e hV hF).1
    have hI' := hA.2.2.2.2
    have hCE : CE w x (slS r p (nwS r (dS r p f) h) P K K) := hA.2.2.2.1.2.1
    have hwz : wK w 0 = 0 := hA.2.1.1
    have hrel := c_isReleased (X := X) w x (slS r p (nwS r (dS r p f) h) P K K) hwz hI'.1 hI'.2.1 hI'.2.2.2.1 hCE mo p (fmo.1.trans hC.1.1.2.1) hp y y1 y2
    rw [hee, fmo.2.1 4 0 (by omega), fmo.2.1 4 1 (by omega), hC.1.1.2.2.1, hC.1.1.2.2.2, sl_off hI hp hP y y2 (fun q => by rw [hPy] at q; cases q) (Or.inl y3)] at hrel
    have e7 : wR w 7 0 sq = rq := (fq.2.2.2.1 7 0 (by omega)).trans hC.1.2.2
    have e61 : wI w 6 1 rq = nI p := (frq.2.1 6 1 (by omega)).trans hC.1.1.1.2.2.1
    have e62 : wR w 6 2 rq = mo := (frq.2.2.2.1 6 2 (by omega)).trans hC.1.1.1.2.2.2.1
    refine tX7_settleLeaves_5 X _ _ _ _ _ _ _ _ _ w ⟨fun z => absurd z hn, fun _ => ?_⟩
    rw [e7, e61, e62]
    refine ⟨fq.1.trans hC.1.2.1, frq.1.trans hC.1.1.1.1, fy.1.trans hCy.1.1, hrel.I ?_⟩
    rintro v w4 ⟨rfl, rfl⟩
    have e28 : ∀ w', Fe V w' → wR w' 2 8 (eA V x y) = wR V 2 8 (eA V x y) := fun w' g => (g.2 _ (kz hCy.1.1)).2.2.2.1 2 8 (by omega)
    refine ⟨fun z => ⟨fy.1.trans hCy.1.1, ?_⟩, fun z => ⟨fy.1.trans hCy.1.1, fk.1.trans hW.1.1, ?_⟩⟩
    · rw [bI_n] at z
      rw [e28 w4 hF]
      have hc : cB r p y = false := by unfold cB; rw [z]; rfl
      refine ih hl' n2 rc rs _ w4 P (by simp at hrc; omega) (by simp at hrs; omega) hF hA hP (fun u hu => hPl u (List.mem_cons_of_mem _ hu)) hk' (fun w' P' a1 a2 a3 a4 => hh w' P' a1 a2 a3 (fun u => ?_))
      rw [a4]
      constructor
      · rintro (q | q)
        · exact Or.inl q
        · exact Or.inr ⟨List.mem_cons_of_mem _ q.1, q.2⟩
      · rintro (q | q)
        · exact Or.inl q
        · rcases List.mem_cons.mp q.1 with e | e
          · rw [e, hc] at q; exact absurd q.2 (by decide)
          · exact Or.inr ⟨e, q.2⟩
    · rw [bI_0] at z
      have hc : cB r p y = true := by unfold cB; rw [z]; rfl
      have e93 : wR w4 9 3 (wA V x k) = wR V 9 3 (wA V x k) := fk.2.2.2.1 9 3 (by omega)
      have e80 : wI w4 8 0 (wR V 9 3 (wA V x k)) = rI r 3 k := (ft.2.1 8 0 (by omega)).trans hW.2.2.1.2.1
      have hya := hC.2.1 y y1 y2 hry
      have e29 : wJ w4 2 9 (eA V x y) = dS r p f y := (fy.2.2.1 2 9 (by omega)).trans hya.1
      have e210 : wJ w4 2 10 (eA V x y) = h y := (fy.2.2.1 2 10 (by omega)).trans hya.2
      have e24 : wJ w4 2 4 (eA V x y) = rJ r 8 y := by
        have h1 := (hCE y y1 y2).2.1.2.1
        rw [hee] at h1
        rw [h1]
        show (if 8 = 8 ∧ P y = true then _ else rJ r 8 y) = _
        rw [if_neg (fun q => by rw [hPy] at q; exact absurd q.2 (by decide))]
      have ky : rI r 3 y = rI r 3 k := by rw [(hI.2.2.2.1 y y1 y2).2.2.2.1.2.2.1, y0]
      rw [e93, e80, e29, e210]
      -- behind the write of what is owed
      have fin : ∀ w3, w3 = sJ w4 2 4 (eA V x y) (nwS r (dS r p f) h y) → wK w3 sq = 8 ∧ wK w3 (wR w3 7 0 sq) = 7 ∧ ∃ rc6 rs7 : Nat, (rc = rc6 + 1 ∧ rs = rs7 + 60) ∧ Ct X bX2_recordRelease mX2_recordRelease [vR (eA V x y), vI (wI w3 6 1 (wR w3 7 0 sq)), vR qa] w3 (qV fun w9 => wK w9 (eA V x y) = 3 ∧ jX7_settleLeaves_5 X A mc ms rc6 rs7 sq (wA V x k) qa (wR w9 2 8 (eA V x y)) w9) := by
        intro w3 hw3
        have hF3 : Fe V w3 := by rw [hw3]; exact hF.tr (Fe.s24 _ _ _)
        have g7 : wR w3 7 0 sq = rq := ((hF3.2 sq (kz hC.1.2.1)).2.2.2.1 7 0 (by omega)).trans hC.1.2.2
        have g61 : wI w3 6 1 rq = nI p := ((hF3.2 rq (kz hC.1.1.1.1)).2.1 6 1 (by omega)).trans hC.1.1.1.2.2.1
        rw [g7, g61]
        have hA3 : AT (Tm w3 (wR V 9 3 (wA V x k)) (sS r 39)) x m r0 (uJ (slS r p (nwS r (dS r p f) h) P K K) 8 y (nwS r (dS r p f) h y)) := by
          have hRx := sl_RIx hI hB hI' hry y1 y2 hPy (by rw [y0]; exact hK)
          have := AT_uJ (r' := slS r p (nwS r (dS r p f) h) P K K) (Or.inl ⟨rfl, rfl⟩) y1 y2 (nwS r (dS r p f) h y) hA hRx
          have he : eA (Tm w4 (wR V 9 3 (wA V x k)) (sS r 39)) x y = eA V x y := by rw [← hee]; rfl
          rw [he] at this
          rw [hw3]; exact this
        have he3 : eA w3 x y = eA V x y := by rw [(fe_e hV hF3).1]
        have hfo : foR r y = f := by rw [(hI.2.2.2.1 y y1 y2).2.2.2.1.2.1, y0]; exact k4
        have gqa := hF3.2 qa (kz hC.2.2.1)
        have hrec := c_recT (X := X) (q := qa) (d := sS r 39) (k := sS r 39) (b := p) hA3 (gqa.1.trans hC.2.2.1) ⟨fun e => absurd e ht, fun _ => ⟨gqa.1.trans hC.2.2.1, by
          show wI w3 0 0 qa = _
          exact (gqa.2.1 0 0 (by omega)).trans hC.2.2.2.1, by
          show wI w3 0 1 qa = _
          exact (gqa.2.1 0 1 (by omega)).trans hC.2.2.2.2⟩⟩ y1 y2 (by show p < ix r 0 (foR r y); rw [hfo]; exact hsz)
        rw [he3, sl_leaf hp] at hrec
        refine ⟨(hF3.2 sq (kz hC.1.2.1)).1.trans hC.1.2.1, (hF3.2 rq (kz hC.1.1.1.1)).1.trans hC.1.1.1.1, rc - 1, rs - 60, ⟨by simp at hrc; omega, by simp at hrs; omega⟩, hrec.V ?_⟩
        rintro w9 ⟨hA9, hF9⟩
        have hF9' := hF3.tr hF9
        rw [e28 w9 hF9']
        refine ⟨(hF9'.2 _ (kz hCy.1.1)).1.trans hCy.1.1, ih hl' n2 (rc - 1) (rs - 60) _ w9 (inB P y) (by simp at hrc; omega) (by simp at hrs; omega) hF9' hA9 (fun u hu => ?_) (fun u hu => ?_) hk' (fun w' P' a1 a2 a3 a4 => hh w' P' a1 a2 a3 (fun u => ?_))⟩
        · unfold inB at hu
          by_cases e : u = y
          · rw [e]; exact ⟨hry, y1, y2⟩
          · rw [if_neg e] at hu; exact hP u hu
        · unfold inB
          rw [if_neg (fun e => n1 (by rw [← e]; exact hu))]; exact hPl u (List.mem_cons_of_mem _ hu)
        · rw [a4]
          unfold inB
          constructor
          · rintro (q | q)
            · by_cases e : u = y
              · exact Or.inr ⟨by rw [e]; exact List.mem_cons_self, by rw [e]; exact hc⟩
              · rw [if_neg e] at q; exact Or.inl q
            · exact Or.inr ⟨List.mem_cons_of_mem _ q.1, q.2⟩
          · rintro (q | q)
            · left; by_cases e : u = y
              · rw [if_pos e]
              · rw [if_neg e]; exact q
            · rcases List.mem_cons.mp q.1 with e | e
              · left; rw [if_pos e]
              · exact Or.inr ⟨e, q.2⟩
      refine ⟨ft.1.trans hW.2.2.1.1, fun h4 => ?_, fun h4 => ?_⟩
      · refine tX7_settleLeaves_57 X _ _ _ _ _ _ _ _ _ _ _ w4 ⟨fun _ => ⟨fy.1.trans hCy.1.1, ?_⟩, fun q => absurd rfl q⟩
        rw [e24]
        intro w3 hw3
        refine fin w3 ?_
        rw [hw3]
        have : nwS r (dS r p f) h y = mn (rJ r 8 y) (lck (dS r p f) h y) := by unfold nwS; rw [if_neg (by rw [ky]; exact h4)]
        rw [this]; rfl
      · refine tX7_settleLeaves_57 X _ _ _ _ _ _ _ _ _ _ _ w4 ⟨fun q => absurd q (by decide), fun _ => ⟨fy.1.trans hCy.1.1, ?_⟩⟩
        intro w3 hw3
        refine fin w3 ?_
        rw [hw3]
        have : nwS r (dS r p f) h y = lck (dS r p f) h y := by unfold nwS; rw [if_pos (by rw [ky]; exact h4)]
        rw [this]; rfl
/-- how many leaves -/
def nlv (r : Rs) (l : List Nat) : Nat := (l.map (fun k => (lvs (fiR r) k).length)).sum
theorem nlv_le (hI : RI r) (f : Nat) : nlv r (chF r f) ≤ nE r := by
  have H := HT_of hI.1 hI.2.2.2.1
  have key : ∀ l : List Nat, l.Nodup → (∀ k ∈ l, k ∈ chF r f) → (l.flatMap (lvs (fiR r))).Nodup ∧ (l.flatMap (lvs (fiR r))).length = nlv r l ∧ ∀ y ∈ l.flatMap (lvs (fiR r)), (1 ≤ y ∧ y ≤ nE r) ∧ whR r y ∈ l := by
    intro l
    induction l with
    | nil => intro _ _; exact ⟨List.nodup_nil, rfl, fun y hy => by cases hy⟩
    | cons k t ih =>
      intro nd hl
      obtain ⟨n1, n2⟩ := List.nodup_cons.mp nd
      obtain ⟨a, b, c⟩ := ih n2 (fun z hz => hl z (List.mem_cons_of_mem _ hz))
      have hm := chF_mem.mp (hl k List.mem_cons_self)
      rw [List.flatMap_cons]
      refine ⟨List.nodup_append.mpr ⟨lvs_nodup H k hm.1 hm.2.1, a, fun y hy z hz e => ?_⟩, ?_, fun y hy => ?_⟩
      · have := (lv_wh hI hm.1 hm.2.1 hm.2.2.1 hy).1
        have h2 := (c z hz).2
        rw [← e, this] at h2; exact n1 h2
      · rw [List.length_append, b]; rfl
      · rcases List.mem_append.mp hy with q | q
        · have := lv_wh hI hm.1 hm.2.1 hm.2.2.1 q
          exact ⟨⟨this.2.1, this.2.2.1⟩, by rw [this.1]; exact List.mem_cons_self⟩
        · exact ⟨(c y q).1, List.mem_cons_of_mem _ (c y q).2⟩
  obtain ⟨a, b, c⟩ := key (chF r f) (chN_nodup r f _) (fun _ z => z)
  rw [← b]
  exact nodup_len _ (nE r) a (fun y hy => (c y hy).1)
theorem c_carryLoop (hV : AT V x m r0 r) (hp : p < 60) (hsz : p < ix r 0 f) {h : Nat → Int64} (hB : HB r p f h) (hC : CO V x r p f rq mo sq qa (dS r p f) h) {mv : Nat → Int32} (hR : RkS V x (chF r f) V (ordS r (sS r 39) (sS r 39) p f).1 mv) (A : Wd → Prop) (mc ms : Nat) : ∀ (l : List Nat), (∀ y ∈ l, y ∈ chF r f) → l.Nodup → ∀ (rc rs a : Nat) (w : Wd) (P K : Nat → Bool), nlv r l ≤ rc → 60 * nlv r l ≤ rs → Fe V w → AT w x m r0 (slS r p (nwS r (dS r p f) h) P K K) → PP r p f P → (∀ z, P z = true → whR r z ∉ l) → (∀ k ∈ l, K k = false) → Lk (wR V 9 12) a (l.map (wA V x)) →
    (∀ w' P' K', Fe V w' → AT w' x m r0 (slS r p (nwS r (dS r p f) h) P' K' K') → (∀ z, P' z = true ↔ P z = true ∨ (whR r z ∈ l ∧ 1 ≤ z ∧ z ≤ nE r ∧ rkd r p f z = true ∧ cB r p z = true)) → (∀ k, K' k = true ↔ K k = true ∨ (k ∈ l ∧ inR r p f k)) → A w') → jX7_carryOut_39 X A mc ms rc rs sq qa a w := by
  have hI := hV.2.2.2.2
  have hN := hI.1.2.1.2
  obtain ⟨hin, hlen⟩ := (ordS_ok (r := r) (dy := sS r 39) (as := sS r 39) (p := p) (f := f) hI).in hI
  intro l
  induction l with
  | nil =>
    intro _ _ rc rs a w P K _ _ hF hA hP _ _ hk hh
    have : a = 0 := hk
    subst this
    exact tX7_carryOut_39 X _ _ _ _ _ _ _ _ w ⟨fun _ => hh w P K hF hA (fun z => by simp) (fun z => by simp), fun z => absurd rfl z⟩
  | cons k l ih =>
    intro hl nd rc rs a w P K hrc hrs hF hA hP hPl hKl hk hh
    obtain ⟨rfl, hn, hk⟩ := Lk_cons hk
    obtain ⟨n1, n2⟩ := List.nodup_cons.mp nd
    have hkc := hl k List.mem_cons_self
    obtain ⟨k10, k98, k0, k1, k2, k3, k4⟩ := ch_w hV hkc
    have hl' : ∀ z ∈ l, z ∈ chF r f := fun z hz => hl z (List.mem_cons_of_mem _ hz)
    have hW := hV.2.2.2.1.2.2.1 k k1 k2 k3
    have fk := hF.2 (wA V x k) (kz k10)
    have en : nlv r (k :: l) = (lvs (fiR r) k).length + nlv r l := rfl
    rw [en] at hrc hrs
    have e912 : ∀ w', Fe V w' → wR w' 9 12 (wA V x k) = wR V 9 12 (wA V x k) := fun w' g => (g.2 _ (kz k10)).2.2.2.1 9 12 (by omega)
    refine tX7_carryOut_39 X _ _ _ _ _ _ _ _ w ⟨fun z => absurd z hn, fun _ => ?_⟩
    rw [fk.2.1 9 14 (by omega), (hR k hkc).1, idx_m1 (by omega)]
    refine ⟨fk.1.trans k10, fun z => ?_, fun z => ?_⟩
    · rw [e912 w hF]
      have hno : ¬ inR r p f k := z
      refine ih hl' n2 rc rs _ w P K (by omega) (by omega) hF hA hP (fun u hu q => hPl u hu (List.mem_cons_of_mem _ q)) (fun u hu => hKl u (List.mem_cons_of_mem _ hu)) hk (fun w' P' K' a1 a2 a3 a4 => hh w' P' K' a1 a2 (fun u => ?_) (fun u => ?_))
      · rw [a3]
        constructor
        · rintro (q | q)
          · exact Or.inl q
          · exact Or.inr ⟨List.mem_cons_of_mem _ q.1, q.2⟩
        · rintro (q | q)
          · exact Or.inl q
          · rcases List.mem_cons.mp q.1 with e | e
            · exfalso; have := (rkd_iff.mp q.2.2.2.1).2; rw [e] at this; exact hno this
            · exact Or.inr ⟨e, q.2⟩
      · rw [a4]
        constructor
        · rintro (q | q)
          · exact Or.inl q
          · exact Or.inr ⟨List.mem_cons_of_mem _ q.1, q.2⟩
        · rintro (q | q)
          · exact Or.inl q
          · rcases List.mem_cons.mp q.1 with e | e
            · rw [e] at q; exact absurd q.2 hno
            · exact Or.inr ⟨e, q.2⟩
    · have hkO : inR r p f k := Classical.byContradiction z
      have hKk := hKl k List.mem_cons_self
      refine ⟨(lvs (fiR r) k).length, 60 * (lvs (fiR r) k).length, rc - (lvs (fiR r) k).length, rs - 60 * (lvs (fiR r) k).length, ⟨by omega, by omega⟩, (hF.2 sq (kz hC.1.2.1)).1.trans hC.1.2.1, ?_⟩
      have hAT : AT (Tm w (wR V 9 3 (wA V x k)) (sS r 39)) x m r0 (slS r p (nwS r (dS r p f) h) P (inB K k) (inB K k)) := by
        have := AT_run hA k1 k2 k3
        have ea : wA w x k = wA V x k := (fe_e hV hF).2 k k1 k2
        rw [ea, fk.2.2.2.1 9 3 (by omega)] at this
        rw [← sl_run k hKk]
        have e18 : rI (slS r p (nwS r (dS r p f) h) P K K) 18 k = rI r 18 k := by
          show (if 18 = 17 ∧ K k = true then sS r 39 else if 18 = 18 ∧ K k = true ∧ rI r 3 k = 4 then 1 else if (18 = 28 ∨ 18 = 29) ∧ P (k / 60) = true ∧ k % 60 = p then sS r 39 else rI r 18 k) = _
          rw [hKk]; simp
        rw [e18] at this
        exact this
      refine oX7_settleLeaves X _ _ _ _ _ _ w ⟨fk.1.trans k10, ?_⟩
      rw [fk.2.2.2.1 9 9 (by omega)]
      refine c_setLoop hV hp hsz hB hC hkO (K := inB K k) (by unfold inB; rw [if_pos rfl]) _ _ _ (lvs (fiR r) k) (fun _ z => z) (lvs_nodup (HT_of hI.1 hI.2.2.2.1) k k1 k2) _ _ _ w P (Nat.le_refl _) (Nat.le_refl _) hF hAT hP (fun y hy => ?_) hW.2.2.2.2.1 (fun w9 P9 a1 a2 a3 a4 => ?_)
      · cases hq : P y with
        | false => rfl
        | true => exact absurd (by rw [(lv_wh hI k1 k2 k3 hy).1]; exact List.mem_cons_self) (hPl y hq)
      have f9k := a1.2 (wA V x k) (kz k10)
      have f9t := a1.2 (wR V 9 3 (wA V x k)) (kz hW.2.2.1.1)
      have f9q := a1.2 qa (kz hC.2.2.1)
      rw [f9k.2.2.2.1 9 3 (by omega), f9q.2.1 0 0 (by omega), hC.2.2.2.1]
      refine ⟨f9k.1.trans k10, f9q.1.trans hC.2.2.1, f9t.1.trans hW.2.2.1.1, ?_⟩
      rintro w15 rfl
      have e93 : wR (sI w9 8 3 (wR V 9 3 (wA V x k)) (sS r 39)) 9 3 (wA V x k) = wR V 9 3 (wA V x k) := f9k.2.2.2.1 9 3 (by omega)
      rw [e93]
      refine ⟨f9t.1.trans hW.2.2.1.1, ?_⟩
      intro w18 hw18
      have hw18' : w18 = Tm w9 (wR V 9 3 (wA V x k)) (sS r 39) := hw18
      have hF18 : Fe V w18 := by rw [hw18']; exact a1.tr (Fe.T _ _ _)
      rw [e912 w18 hF18]
      refine ih hl' n2 _ _ _ w18 P9 (inB K k) (by omega) (by omega) hF18 (by rw [hw18']; exact a2) a3 (fun u hu q => ?_) (fun u hu => ?_) hk (fun w' P' K' b1 b2 b3 b4 => hh w' P' K' b1 b2 (fun u => ?_) (fun u => ?_))
      · rcases (a4 u).mp hu with e | e
        · exact hPl u e (List.mem_cons_of_mem _ q)
        · rw [(lv_wh hI k1 k2 k3 e.1).1] at q; exact n1 q
      · unfold inB; rw [if_neg (fun e => n1 (by rw [← e]; exact hu))]; exact hKl u (List.mem_cons_of_mem _ hu)
      · rw [b3, a4]
        constructor
        · rintro ((q | q) | q)
          · exact Or.inl q
          · have := lv_wh hI k1 k2 k3 q.1
            exact Or.inr ⟨by rw [this.1]; exact List.mem_cons_self, this.2.1, this.2.2.1, rkd_lv hI hkO q.1, q.2⟩
          · exact Or.inr ⟨List.mem_cons_of_mem _ q.1, q.2⟩
        · rintro (q | q)
          · exact Or.inl (Or.inl q)
          · rcases List.mem_cons.mp q.1 with e | e
            · exact Or.inl (Or.inr ⟨by rw [← e]; exact lvs_wh hI q.2.1 q.2.2.1 (rkd_iff.mp q.2.2.2.1).1, q.2.2.2.2⟩)
            · exact Or.inr ⟨e, q.2⟩
      · rw [b4]
        unfold inB
        constructor
        · rintro (q | q)
          · by_cases e : u = k
            · exact Or.inr ⟨by rw [e]; exact List.mem_cons_self, by rw [e]; exact hkO⟩
            · rw [if_neg e] at q; exact Or.inl q
          · exact Or.inr ⟨List.mem_cons_of_mem _ q.1, q.2⟩
        · rintro (q | q)
          · left; by_cases e : u = k
            · rw [if_pos e]
            · rw [if_neg e]; exact q
          · rcases List.mem_cons.mp q.1 with e | e
            · left; rw [if_pos e]
            · exact Or.inr ⟨e, q.2⟩
end U1
