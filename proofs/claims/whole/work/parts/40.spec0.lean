/-! ===== the reference's small methods, in the words of its state ===== -/
def bI (b : Bool) : Int32 := if b then 1 else 0
theorem bI_01 (b : Bool) : bI b = 0 ∨ bI b = 1 := by cases b <;> simp [bI]
theorem bI_0 (b : Bool) : bI b = 0 ↔ b = false := by cases b <;> simp [bI]
theorem bI_n (b : Bool) : ¬ bI b = 0 ↔ b = true := by cases b <;> simp [bI]
/-- a day d known on k counts on the day dy as known on as -/
def cntB (dy as d k : Int32) : Bool := !(decide (k = -1)) && !(decide (dy < d)) && !(decide (as < k))
def ix (r : Rs) (k i : Nat) : Nat := (rI r k i).toNatClampNeg
/-- the whole of e lives -/
def livB (r : Rs) (dy as : Int32) (e : Nat) : Bool := cntB dy as (rI r 13 (ix r 5 e)) (rI r 14 (ix r 5 e)) && !(cntB dy as (rI r 15 (ix r 5 e)) (rI r 16 (ix r 5 e)))
section S0
variable {X : Cx} {w0 : Wd} {m : Nat}
theorem s_refuse (hS : Sh w0 m) (r : Rs) (y : Int32) : CM X w0 m bX11_refuse mX11_refuse [vI y] r (pI fun x r1 => x = -1 ∧ r1 = uS r 41 y) := pX11_refuse X w0 m hS _ y r (fun _ h => ⟨rfl, h⟩)
theorem s_no (hS : Sh w0 m) (r : Rs) (y : Int32) : CM X w0 m bX11_no mX11_no [vI y] r (pI fun x r1 => x = 0 ∧ r1 = uS r 41 y) := pX11_no X w0 m hS _ y r (fun _ h => ⟨rfl, h⟩)
def dnow (r : Rs) : Int32 := if sS r 40 = -1 then sS r 39 else sS r 40
theorem s_dateNow (hS : Sh w0 m) (r : Rs) : CM X w0 m bX11_dateNow mX11_dateNow [] r (pI fun x r1 => x = dnow r ∧ r1 = r) := pX11_dateNow X w0 m hS _ r (by grind [dnow])
def entB (r : Rs) (e : Int32) : Bool := !(decide (e < 1)) && !(decide (sS r 30 < e))
theorem s_isEntry (hS : Sh w0 m) (r : Rs) (e : Int32) : CM X w0 m bX11_isEntry mX11_isEntry [vI e] r (pI fun x r1 => x = bI (entB r e) ∧ r1 = r) := pX11_isEntry X w0 m hS _ e r (by grind [entB, bI])
theorem s_view (hS : Sh w0 m) (r : Rs) (a b : Int32) : CM X w0 m bX11_view mX11_view [vI a, vI b] r (pV fun r1 => r1 = uS (uS r 45 a) 46 b) := pX11_view X w0 m hS _ a b r (by grind)
theorem s_now (hS : Sh w0 m) (r : Rs) : CM X w0 m bX11_now mX11_now [] r (pV fun r1 => r1 = uS (uS r 45 (sS r 39)) 46 (sS r 39)) := pX11_now X w0 m hS _ r (s_view hS r _ _)
theorem s_counts (hS : Sh w0 m) (r : Rs) (d k : Int32) : CM X w0 m bX11_counts mX11_counts [vI d, vI k] r (pI fun x r1 => x = bI (cntB (sS r 45) (sS r 46) d k) ∧ r1 = r) := pX11_counts X w0 m hS _ d k r (by grind [cntB, bI])
theorem s_lives (hS : Sh w0 m) (r : Rs) (e : Nat) (he : e < 301) (hw : ∃ k, k < 301 ∧ rI r 5 e = nI k) : CM X w0 m bX11_lives mX11_lives [vI (nI e)] r (pI fun x r1 => x = bI (livB r (sS r 45) (sS r 46) e) ∧ r1 = r) := by
  obtain ⟨k, hk, hw⟩ := hw
  have h1 : vp_in (nI e) 301 := vp_in_nI he (by omega)
  have h2 : (nI e).toNatClampNeg = e := nI_clamp (by omega)
  have h3 : vp_in (rI r 5 e) 301 := by rw [hw]; exact vp_in_nI hk (by omega)
  refine pX11_lives X w0 m hS _ (nI e) r ?_
  rw [h2]
  refine ⟨h1, h3, h3, (s_counts hS r _ _).I ?_⟩
  rintro x r1 ⟨rfl, rfl⟩
  refine ⟨fun h => ?_, fun h => ⟨h3, h3, (s_counts hS r1 _ _).I ?_⟩⟩
  · rw [bI_0] at h
    simp [livB, ix, h, bI]
  · rintro x r2 ⟨rfl, rfl⟩
    rw [bI_n] at h
    refine ⟨fun h2 => ?_, fun h2 => ?_⟩
    · rw [bI_n] at h2
      simp [livB, ix, h, h2, bI]
    · rw [bI_0] at h2
      simp [livB, ix, h, h2, bI]
end S0
