/-! ===== enter, the reference ===== -/
/-- the releases of e, the first i of them, set to none -/
def clr (r : Rs) (e i : Nat) : Rs := (r.1, r.2.1, fun k j => if k = 29 ∧ 60 * e ≤ j ∧ j < 60 * e + i then -1 else rI r k j, r.2.2.2)
theorem clr_0 (r : Rs) (e : Nat) : clr r e 0 = r := by
  refine Prod.ext rfl (Prod.ext rfl (Prod.ext ?_ rfl))
  funext k j
  show (if k = 29 ∧ 60 * e ≤ j ∧ j < 60 * e + 0 then (-1 : Int32) else rI r k j) = rI r k j
  rw [if_neg (by omega)]
theorem clr_s (r : Rs) (e i : Nat) : uI (clr r e i) 29 (60 * e + i) (-1) = clr r e (i + 1) := by
  refine Prod.ext rfl (Prod.ext rfl (Prod.ext ?_ rfl))
  funext k j
  show (if k = 29 ∧ j = 60 * e + i then (-1 : Int32) else if k = 29 ∧ 60 * e ≤ j ∧ j < 60 * e + i then -1 else rI r k j) = (if k = 29 ∧ 60 * e ≤ j ∧ j < 60 * e + (i + 1) then -1 else rI r k j)
  by_cases h1 : k = 29 ∧ j = 60 * e + i
  · rw [if_pos h1, if_pos (by omega)]
  · rw [if_neg h1]
    by_cases h2 : k = 29 ∧ 60 * e ≤ j ∧ j < 60 * e + i
    · rw [if_pos h2, if_pos (by omega)]
    · rw [if_neg h2, if_neg (by omega)]
def mk0 (r : Rs) (N : Nat) (fo ki wh pa ow : Int32) (sm : Int64) : Rs := uI (uI (uI (uI (uJ (uI (uI (uI (uI (uI (uS r 30 (nI N)) 3 N ki) 4 N fo) 5 N wh) 6 N pa) 7 N ow) 8 N sm) 9 N 0) 16 N (-1)) 23 N (-1)) 27 N (-1)
def mkR (r : Rs) (N : Nat) (fo ki wh pa ow : Int32) (sm : Int64) : Rs := clr (mk0 r N fo ki wh pa ow sm) N 60
section C19
variable {X : Cx} {w0 : Wd} {m : Nat}
theorem s_make (hS : Sh w0 m) (r : Rs) (n : Nat) (hr : sS r 30 = nI n) (hn : n < 300) (fo ki wh pa ow : Int32) (sm : Int64) : CM X w0 m bX11_make mX11_make [vI fo, vI ki, vI wh, vI pa, vI ow, vJ sm] r (pI fun v r1 => v = nI (n + 1) ∧ r1 = mkR r (n + 1) fo ki (if wh = 0 then nI (n + 1) else wh) pa ow sm) := by
  have hNc : (nI (n + 1)).toNatClampNeg = n + 1 := nI_clamp (by omega)
  have hv : vp_in (nI (n + 1)) 301 := inN (by omega) (by omega)
  have key : ∀ (j i : Nat) (r0 : Rs), i + j = 60 → iX11_make_111 X w0 m (fun v r1 => v = nI (n + 1) ∧ r1 = clr r0 (n + 1) 60) (nI (n + 1)) (nI i) (clr r0 (n + 1) i) := by
    intro j
    induction j with
    | zero =>
      intro i r0 hi
      have h60 : nI 60 = 60 := by decide
      refine rX11_make_111 X w0 m hS _ _ _ _ ?_
      rw [← h60, nI_leI (by omega) (by omega)]
      have : i = 60 := by omega
      subst this
      exact ⟨fun _ => ⟨rfl, rfl⟩, fun q => absurd (Nat.le_refl _) q⟩
    | succ j ih =>
      intro i r0 hi
      have h60 : nI 60 = 60 := by decide
      refine rX11_make_111 X w0 m hS _ _ _ _ ?_
      have hle : (60 : Int32) ≤ nI i ↔ 60 ≤ i := by rw [← h60, nI_leI (by omega) (by omega)]
      rw [hle, nI60, nI_clamp (show 60 * (n + 1) + i < 2 ^ 31 by omega), ← nI_succ]
      refine ⟨fun q => absurd q (by omega), fun _ => ⟨inN (by omega) (by omega), ?_⟩⟩
      rintro r3 rfl
      rw [clr_s]
      exact ih (i + 1) r0 (by omega)
  refine pX11_make X w0 m hS _ fo ki wh pa ow sm r ?_
  rintro r1 rfl
  have h30 : sS (uS r 30 (sS r 30 + 1)) 30 = nI (n + 1) := by
    show sS r 30 + 1 = nI (n + 1)
    rw [hr]; exact nI_1 n
  have h30' : sS r 30 + 1 = nI (n + 1) := h30
  rw [h30, hNc, h30']
  refine ⟨hv, ?_⟩
  rintro r4 rfl
  refine ⟨hv, ?_⟩
  rintro r7 rfl
  refine ⟨fun hw => ⟨hv, ?_⟩, fun hw => ⟨hv, ?_⟩⟩
  · rintro r11 rfl
    refine ⟨hv, ?_⟩
    rintro r14 rfl
    refine ⟨hv, ?_⟩
    rintro r17 rfl
    refine ⟨hv, ?_⟩
    rintro r20 rfl
    refine ⟨hv, ?_⟩
    rintro r23 rfl
    refine ⟨hv, ?_⟩
    rintro r26 rfl
    refine ⟨hv, ?_⟩
    rintro r29 rfl
    refine ⟨hv, ?_⟩
    rintro r32 rfl
    rw [if_neg hw]
    have := key 60 0 (mk0 r (n + 1) fo ki wh pa ow sm) (by omega)
    rw [clr_0] at this
    exact this
  · rintro r11 rfl
    refine ⟨hv, ?_⟩
    rintro r14 rfl
    refine ⟨hv, ?_⟩
    rintro r17 rfl
    refine ⟨hv, ?_⟩
    rintro r20 rfl
    refine ⟨hv, ?_⟩
    rintro r23 rfl
    refine ⟨hv, ?_⟩
    rintro r26 rfl
    refine ⟨hv, ?_⟩
    rintro r29 rfl
    refine ⟨hv, ?_⟩
    rintro r32 rfl
    rw [if_pos hw]
    have := key 60 0 (mk0 r (n + 1) fo ki (nI (n + 1)) pa ow sm) (by omega)
    rw [clr_0] at this
    exact this
end C19
/-- a whole entered -/
def enR (r : Rs) (N f : Nat) (ki : Int32) (s : Int64) (rt : Int32) (P : Int64) (d t : Int32) : Rs :=
  uI (uI (uI (uI (uI (uJ (uI (uJ (mkR r N (nI f) ki (nI N) 0 0 (if ki = 3 then 0 else s)) 10 N P) 11 N rt) 12 N s) 13 N d) 14 N t) 17 N d) 20 N 36501) 21 N 2
theorem s_enterRef {X : Cx} {w0 : Wd} {m : Nat} (hS : Sh w0 m) (r : Rs) (hI : RI r) (f : Nat) (k : Int32) (s : Int64) (rt : Int32) (P : Int64) (h : f < nF r) : CM X w0 m bX11_enter mX11_enter [vI (nI f), vI k, vJ s, vI rt, vJ P] r (pI fun u r1 => (entF r f k s rt P ≠ 0 → u = -1 ∧ Pe (uS r 41 (entF r f k s rt P)) r1) ∧ (entF r f k s rt P = 0 → u = nI (nE r + 1) ∧ r1 = uS (enR r (nE r + 1) f k s rt P (dnow r) (sS r 39)) 41 0)) := by
  have hc := hI.1
  have hf := hI.2.1
  have hF := hc.1.2
  have hN := hc.2.1.2
  have hlt : nI f < sS r 2 := by rw [hc.1.1]; exact nI_lt h (by omega)
  have no : ∀ (g : Int32), entF r f k s rt P = g → g ≠ 0 → CM X w0 m bX11_refuse mX11_refuse [vI g] r (pI fun u r1 => (entF r f k s rt P ≠ 0 → u = -1 ∧ Pe (uS r 41 (entF r f k s rt P)) r1) ∧ (entF r f k s rt P = 0 → u = nI (nE r + 1) ∧ r1 = uS (enR r (nE r + 1) f k s rt P (dnow r) (sS r 39)) 41 0)) := by
    intro g hg h0
    refine (cm_ref hS (Pe.rf r) g).I ?_
    rintro u r1 ⟨rfl, hq⟩
    rw [hg]
    exact ⟨fun _ => ⟨rfl, hq⟩, fun q => absurd q h0⟩
  refine pX11_enter X w0 m hS _ _ k s rt P r ⟨fun q => absurd q (nI_pos (by omega)), fun _ => ⟨fun _ => (s_wrongBits hS r hc hf f P h).I ?_, fun q => absurd hlt q⟩⟩
  rintro v r1 ⟨rfl, rfl⟩
  have hb3 : bitsF r1 f P = 0 ∨ bitsF r1 f P = 2 ∨ bitsF r1 f P = 3 := by
    unfold bitsF
    by_cases z1 : P = 0
    · simp [z1]
    · by_cases z2 : P >>> ((nI (ix r1 0 f)).toInt64 &&& 63) = 0
      · cases z3 : tA r1 f P 0 (ix r1 0 f) <;> simp [z1, z2]
      · simp [z1, z2]
  refine ⟨fun hle => ?_, fun hle => no _ (by rw [entF, if_pos]; intro z; rw [z] at hle; exact hle (by decide)) (by intro z; rw [z] at hle; exact hle (by decide))⟩
  have hb : bitsF r1 f P = 0 := by
    rcases hb3 with z | z | z
    · exact z
    · rw [z] at hle; exact absurd hle (by decide)
    · rw [z] at hle; exact absurd hle (by decide)
  have fin : ∀ M : Int32, maxR k = M → iX11_enter_58 X w0 m (fun u r2 => (entF r1 f k s rt P ≠ 0 → u = -1 ∧ Pe (uS r1 41 (entF r1 f k s rt P)) r2) ∧ (entF r1 f k s rt P = 0 → u = nI (nE r1 + 1) ∧ r2 = uS (enR r1 (nE r1 + 1) f k s rt P (dnow r1) (sS r1 39)) 41 0)) (nI f) k s rt P M r1 := by
    intro M hM
    refine rX11_enter_58 X w0 m hS _ _ _ _ _ _ _ r1 ?_
    have h300 : sS r1 30 = 300 ↔ nE r1 = 300 := by
      have : nI 300 = 300 := by decide
      rw [hc.2.1.1, ← this, nI_eq (by omega) (by omega)]
    rw [lg_lt, lg_gt, h300]
    refine ⟨fun q => no 5 (by simp [entF, hb, q]) (by decide), fun k1 => ⟨fun q => no 5 (by simp [entF, hb, q]) (by decide), fun k2 => ⟨fun q => no 5 (by simp [entF, hb, q]) (by decide), fun s1 => ⟨fun q => no 5 (by simp [entF, hb, q]) (by decide), fun s2 => ⟨fun q => no 5 (by simp [entF, hb, q]) (by decide), fun t1 => ⟨fun t2 => ⟨fun e1 => ?_, fun e1 => no 10 (by simp [entF, hb, k1, k2, s1, s2, t1, hM, t2, e1]) (by decide)⟩, fun t2 => no 5 (by simp [entF, hb, k1, k2, s1, s2, t1, hM, t2]) (by decide)⟩⟩⟩⟩⟩⟩
    have hz : entF r1 f k s rt P = 0 := by simp [entF, hb, k1, k2, s1, s2, t1, hM, t2, e1]
    have hNc : (nI (nE r1 + 1)).toNatClampNeg = nE r1 + 1 := nI_clamp (by omega)
    have hv : vp_in (nI (nE r1 + 1)) 301 := inN (by omega) (by omega)
    have tail : ∀ (sm : Int64), sm = (if k = 3 then 0 else s) → CM X w0 m bX11_make mX11_make [vI (nI f), vI k, vI 0, vI 0, vI 0, vJ sm] r1 (pI fun x24 r26 => vp_in x24 301 ∧ ∀ r28 : Rs, r28 = uJ r26 10 x24.toNatClampNeg P → vp_in x24 301 ∧ ∀ r31 : Rs, r31 = uI r28 11 x24.toNatClampNeg rt → vp_in x24 301 ∧ ∀ r34 : Rs, r34 = uJ r31 12 x24.toNatClampNeg s → CM X w0 m bX11_dateNow mX11_dateNow [] r34 (pI fun x36 r38 => vp_in x24 301 ∧ ∀ r40 : Rs, r40 = uI r38 13 x24.toNatClampNeg x36 → vp_in x24 301 ∧ ∀ r43 : Rs, r43 = uI r40 14 x24.toNatClampNeg (sS r40 39) → vp_in x24 301 ∧ vp_in x24 301 ∧ ∀ r47 : Rs, r47 = uI r43 17 x24.toNatClampNeg (rI r43 13 x24.toNatClampNeg) → vp_in x24 301 ∧ ∀ r50 : Rs, r50 = uI r47 20 x24.toNatClampNeg 36501 → vp_in x24 301 ∧ ∀ r53 : Rs, r53 = uI r50 21 x24.toNatClampNeg 2 → ∀ r55 : Rs, r55 = uS r53 41 0 → (entF r1 f k s rt P ≠ 0 → x24 = -1 ∧ Pe (uS r1 41 (entF r1 f k s rt P)) r55) ∧ (entF r1 f k s rt P = 0 → x24 = nI (nE r1 + 1) ∧ r55 = uS (enR r1 (nE r1 + 1) f k s rt P (dnow r1) (sS r1 39)) 41 0))) := by
      rintro sm rfl
      refine (s_make hS r1 (nE r1) hc.2.1.1 (by omega) _ _ _ _ _ _).I ?_
      rintro v r2 ⟨rfl, rfl⟩
      rw [hNc]
      refine ⟨hv, ?_⟩
      rintro r3 rfl
      refine ⟨hv, ?_⟩
      rintro r4 rfl
      refine ⟨hv, ?_⟩
      rintro r5 rfl
      refine (s_dateNow hS _).I ?_
      rintro v r6 ⟨rfl, rfl⟩
      refine ⟨hv, ?_⟩
      rintro r7 rfl
      refine ⟨hv, ?_⟩
      rintro r8 rfl
      refine ⟨hv, hv, ?_⟩
      rintro r9 rfl
      refine ⟨hv, ?_⟩
      rintro r10 rfl
      refine ⟨hv, ?_⟩
      rintro r11 rfl r12 rfl
      refine ⟨fun q => absurd hz q, fun _ => ⟨rfl, ?_⟩⟩
      have e17 : ∀ (A : Rs) (d t : Int32), rI (uI (uI A 13 (nE r1 + 1) d) 14 (nE r1 + 1) t) 13 (nE r1 + 1) = d := fun A d t => by
        show (if 13 = 13 ∧ nE r1 + 1 = nE r1 + 1 then d else rI A 13 (nE r1 + 1)) = d
        simp
      rw [e17, if_pos rfl]
      rfl
    exact ⟨fun q => tail s (by rw [if_neg q]), fun q => tail 0 (by rw [if_pos q])⟩
  refine ⟨fun q => fin _ (by simp [maxR, q]), fun q => ⟨fun q2 => fin _ (by simp [maxR, q, q2]), fun q2 => fin _ (by simp [maxR, q2])⟩⟩
