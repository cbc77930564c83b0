/-! ===== changes of an entry's numbers; tell, paper, owe, pay, parcels ===== -/
theorem MO_mv {w w' : Wd} {m : Nat} {r : Rs} (hK : ∀ a, wK w a ≠ 0 → wK w' a = wK w a ∧ wL w' a = wL w a) (hR : ∀ k, wR w' 11 k m = wR w 11 k m) (hI : ∀ k, wI w' 11 k m = wI w 11 k m) (hJ : wJ w' 11 64 m = wJ w 11 64 m) (hx : ∀ k i, k < 65 → kA k ≠ 0 → xI w' (wR w 11 k m) i = xI w (wR w 11 k m) i ∧ xJ w' (wR w 11 k m) i = xJ w (wR w 11 k m) i) (h : MO w m r) : MO w' m r := by
  obtain ⟨hS, hW⟩ := h
  have hm : wK w m ≠ 0 := by rw [hS.1]; decide
  have ha : ∀ k, k < 65 → kA k ≠ 0 → wK w (wR w 11 k m) ≠ 0 := fun k h1 h2 => by rw [(hS.2.1 k h1 h2).1]; exact h2
  refine ⟨⟨(hK m hm).1.trans hS.1, fun k h1 h2 => ?_, fun j k h1 h2 h3 h4 h5 => ?_⟩, ⟨rfl, rfl, rfl, rfl⟩, fun _ _ _ _ => rfl, fun _ _ _ _ => rfl, fun _ _ _ => ⟨rfl, rfl⟩, fun k => ?_, ?_, fun k i h1 h2 => ?_, fun k i h1 h2 => ?_⟩
  · rw [hR k, (hK _ (ha k h1 h2)).1, (hK _ (ha k h1 h2)).2]; exact hS.2.1 k h1 h2
  · rw [hR j, hR k] at h5; exact hS.2.2 j k h1 h2 h3 h4 h5
  · rw [hI]; exact hW.2.2.2.2.1 k
  · rw [hJ]; exact hW.2.2.2.2.2.1
  · rw [hR, (hx k i h1 h2).1]; exact hW.2.2.2.2.2.2.1 k i h1 h2
  · rw [hR, (hx k i h1 h2).2]; exact hW.2.2.2.2.2.2.2 k i h1 h2
theorem MO_sJ {w : Wd} {m : Nat} {r : Rs} (c k a : Nat) (v : Int64) (hc : c ≠ 11) (h : MO w m r) : MO (sJ w c k a v) m r :=
  MO_mv (w := w) (fun _ _ => ⟨rfl, rfl⟩) (fun _ => rfl) (fun _ => rfl) (by rw [(S_sJ w c k a v).2.2.2.2.2.2.2, if_neg (fun q => hc q.1.symm)]) (fun _ _ _ _ => ⟨rfl, rfl⟩) h
theorem MO_sI {w : Wd} {m : Nat} {r : Rs} (c k a : Nat) (v : Int32) (hc : c ≠ 11) (h : MO w m r) : MO (sI w c k a v) m r :=
  MO_mv (w := w) (fun _ _ => ⟨rfl, rfl⟩) (fun _ => rfl) (fun _ => by rw [(S_sI w c k a v).2.2.2.2.2.2.2, if_neg (fun q => hc q.1.symm)]) rfl (fun _ _ _ _ => ⟨rfl, rfl⟩) h
theorem MO_sR {w : Wd} {m : Nat} {r : Rs} (c k a : Nat) (v : Nat) (hc : c ≠ 11) (h : MO w m r) : MO (sR w c k a v) m r :=
  MO_mv (w := w) (fun _ _ => ⟨rfl, rfl⟩) (fun _ => by rw [(S_sR w c k a v).2.2.2.2.2.2.2, if_neg (fun q => hc q.1.symm)]) (fun _ => rfl) rfl (fun _ _ _ _ => ⟨rfl, rfl⟩) h
theorem chF_I {r r' : Rs} (h : rI r' = rI r) (hn : nE r' = nE r) (f : Nat) : chF r' f = chF r f := by
  have hi : ix r' = ix r := by funext k i; unfold ix; rw [h]
  have h1 : ∀ n, chN r' f n = chN r f n := by
    intro n
    induction n with
    | zero => rfl
    | succ n ih =>
      unfold chN insW paR foR
      rw [ih, hi, h]
  unfold chF
  rw [hn]
  exact h1 _
theorem CF_J {w w' : Wd} {x : Nat} {r r' : Rs} (h1 : wK w' = wK w) (h2 : wR w' = wR w) (h3 : wI w' 3 = wI w 3) (h4 : wJ w' 3 = wJ w 3) (h5 : xR w' = xR w) (h6 : rI r' = rI r) (h7 : nE r' = nE r) (h8 : nF r' = nF r) (h : CF w x r) : CF w' x r' := by
  have e1 : eA w' x = eA w x := by funext e; unfold eA; rw [h2, h5]
  have e2 : wA w' x = wA w x := by funext e; unfold wA; rw [h2, e1]
  have e3 : fA w' x = fA w x := by funext e; unfold fA; rw [h2, h5]
  unfold CF at *
  simp only [e2, e3, h1, h2, h3, h4, h6, h8, chF_I h6 h7]
  exact h
/-- an entry's long number and the reference's, changed alike -/
theorem C4_uJ {w : Wd} {x : Nat} {r : Rs} (hc : RIc r) {k j : Nat} (hk : (k = 4 ∧ j = 8) ∨ (k = 11 ∧ j = 62) ∨ (k = 12 ∧ j = 63)) {e : Nat} (h1 : 1 ≤ e) (h2 : e ≤ nE r) (v : Int64) (h : C4 w x r) : C4 (sJ w 2 k (eA w x e) v) x (uJ r j e v) := by
  obtain ⟨hF, hE, hW, ⟨pl, hP⟩, hX⟩ := h
  have inj : ∀ e', 1 ≤ e' → e' ≤ nE r → (eA w x e' = eA w x e ↔ e' = e) := fun e' a b => ⟨fun q => eA_inj hc hE a b h1 h2 q, fun q => by rw [q]⟩
  refine ⟨?_, ?_, ?_, ⟨pl, ?_⟩, hX⟩
  · exact CF_J (w := w) (r := r) rfl rfl rfl (by funext a b; rw [(S_sJ w 2 k (eA w x e) v).2.2.2.2.2.2.2, if_neg (by omega)]) rfl rfl rfl rfl hF
  · intro e' a b
    have hq := hE e' a b
    have hi := inj e' a b
    rcases hk with ⟨rfl, rfl⟩ | ⟨rfl, rfl⟩ | ⟨rfl, rfl⟩
    · refine ⟨hq.1, ⟨hq.2.1.1, ?_, hq.2.1.2.2.1, hq.2.1.2.2.2.1, hq.2.1.2.2.2.2⟩, hq.2.2⟩
      show (if 2 = 2 ∧ 4 = 4 ∧ eA w x e' = eA w x e then v else wJ w 2 4 (eA w x e')) = (if 8 = 8 ∧ e' = e then v else rJ r 8 e')
      simp [hi, hq.2.1.2.1]
    · refine ⟨hq.1, ⟨hq.2.1.1, hq.2.1.2.1, hq.2.1.2.2.1, ?_, hq.2.1.2.2.2.2⟩, hq.2.2⟩
      show (if 2 = 2 ∧ 11 = 11 ∧ eA w x e' = eA w x e then v else wJ w 2 11 (eA w x e')) = (if 62 = 62 ∧ e' = e then v else rJ r 62 e')
      simp [hi, hq.2.1.2.2.2.1]
    · refine ⟨hq.1, ⟨hq.2.1.1, hq.2.1.2.1, hq.2.1.2.2.1, hq.2.1.2.2.2.1, ?_⟩, hq.2.2⟩
      show (if 2 = 2 ∧ 12 = 12 ∧ eA w x e' = eA w x e then v else wJ w 2 12 (eA w x e')) = (if 63 = 63 ∧ e' = e then v else rJ r 63 e')
      simp [hi, hq.2.1.2.2.2.2]
  · rcases hk with ⟨rfl, rfl⟩ | ⟨rfl, rfl⟩ | ⟨rfl, rfl⟩ <;> exact hW
  · rcases hk with ⟨rfl, rfl⟩ | ⟨rfl, rfl⟩ | ⟨rfl, rfl⟩ <;> exact hP
theorem RI_uJ {r : Rs} (j e : Nat) (v : Int64) (he : e ≤ nE r) (h : RI r) (hx : RIx (uJ r j e v)) (hj : j ≠ 33) : RI (uJ r j e v) := by
  refine ⟨h.1, h.2.1, ⟨h.2.2.1.1, fun e' he' => ?_, h.2.2.1.2.2.1, h.2.2.1.2.2.2.1, h.2.2.1.2.2.2.2.1, hx⟩, h.2.2.2.1, h.2.2.2.2.1, h.2.2.2.2.2.1, h.2.2.2.2.2.2.1, h.2.2.2.2.2.2.2.1, h.2.2.2.2.2.2.2.2.1, h.2.2.2.2.2.2.2.2.2.1, fun q q1 q2 => ?_⟩
  rotate_left
  · have hz := h.2.2.2.2.2.2.2.2.2.2 q q1 q2
    refine ⟨hz.1, hz.2.1, hz.2.2.1, ?_⟩
    show 0 ≤ (if 33 = j ∧ q = e then v else rJ r 33 q)
    rw [if_neg (fun z => hj z.1.symm)]; exact hz.2.2.2
  have q := h.2.2.1.2.1 e' he'
  have hn : e' ≠ e := fun z => by have : nE r < e' := he'; omega
  refine ⟨q.1, q.2.1, q.2.2.1, q.2.2.2.1, ?_, ?_⟩
  · show (if 62 = j ∧ e' = e then v else rJ r 62 e') = 0
    rw [if_neg (fun z => hn z.2)]; exact q.2.2.2.2.1
  · show (if 63 = j ∧ e' = e then v else rJ r 63 e') = 0
    rw [if_neg (fun z => hn z.2)]; exact q.2.2.2.2.2
theorem CS_uJ {w : Wd} {x : Nat} {r : Rs} (k a j e : Nat) (v v' : Int64) (h : CS w x r) : CS (sJ w 2 k a v) x (uJ r j e v') := h
theorem AT_uJ {w : Wd} {x m : Nat} {r r' : Rs} {k j : Nat} (hk : (k = 4 ∧ j = 8) ∨ (k = 11 ∧ j = 62) ∨ (k = 12 ∧ j = 63)) {e : Nat} (h1 : 1 ≤ e) (h2 : e ≤ nE r') (v : Int64) (h : AT w x m r r') (hx : RIx (uJ r' j e v)) : AT (sJ w 2 k (eA w x e) v) x m r (uJ r' j e v) :=
  ⟨MO_sJ 2 k _ v (by decide) h.1, h.2.1, CS_uJ k _ j e v v h.2.2.1, C4_uJ h.2.2.2.2.1 hk h1 h2 v h.2.2.2.1, RI_uJ j e v h2 h.2.2.2.2 hx (by omega)⟩
theorem uJS_comm (r : Rs) (j e k : Nat) (a : Int64) (b : Int32) : uJ (uS r k b) j e a = uS (uJ r j e a) k b := rfl
theorem uIS_comm (r : Rs) (j e k : Nat) (a b : Int32) : uI (uS r k b) j e a = uS (uI r j e a) k b := rfl
/-- the reference refuses as the class has -/
theorem cm_no {X : Cx} {w0 : Wd} {m : Nat} (hS : Sh w0 m) {r r' : Rs} (hp : Pe r r') (f : Int32) : CM X w0 m bX11_no mX11_no [vI f] r' (pI fun x2 r4 => (x2 = 0 ∨ x2 = 1) ∧ x2 = 0 ∧ Pe (uS r 41 f) r4) :=
  (s_no hS r' f).I (by
    rintro u r1 ⟨rfl, rfl⟩
    refine ⟨Or.inl rfl, rfl, fun k hk => ?_, hp.2.1, hp.2.2.1, hp.2.2.2⟩
    rw [(R_uS r' 41 f).2.2.2, (R_uS r 41 f).2.2.2, hp.1 k hk])
theorem cm_ref {X : Cx} {w0 : Wd} {m : Nat} (hS : Sh w0 m) {r r' : Rs} (hp : Pe r r') (f : Int32) : CM X w0 m bX11_refuse mX11_refuse [vI f] r' (pI fun x2 r4 => x2 = -1 ∧ Pe (uS r 41 f) r4) :=
  (s_refuse hS r' f).I (by
    rintro u r1 ⟨rfl, rfl⟩
    refine ⟨rfl, fun k hk => ?_, hp.2.1, hp.2.2.1, hp.2.2.2⟩
    rw [(R_uS r' 41 f).2.2.2, (R_uS r 41 f).2.2.2, hp.1 k hk])
theorem sm_tell (e : Int32) (s : Int64) : SmI bX10_tell mX10_tell bX11_tell mX11_tell [vI e, vJ s] := by
  intro X w x m r hA
  have hC := hA.2.2.1
  have hc := hA.2.2.2.2.1
  have h4 := hA.2.2.2.1
  refine oX10_tell X _ x e s w ⟨hC.1.1, (c_entryAt w x r e hC hc).R ?_⟩
  rintro a w1 ⟨rfl, rfl⟩
  cases he : entB r e
  · rw [if_neg (by decide)]
    have done : ∀ f, jX10_tell_18 X (fun v w1 => ∃ r', AT w1 x m r r' ∧ CM X w1 m bX11_tell mX11_tell [vI e, vJ s] r (pI fun u r1 => u = v ∧ Pe r' r1)) x s 0 f w1 := by
      intro f
      refine tX10_tell_18 X _ _ _ _ _ w1 ⟨fun q => absurd rfl q, fun _ => ⟨hC.1.1, (c_settle w1 x 1 hC.1.1).I ?_⟩⟩
      rintro v w2 ⟨rfl, rfl⟩
      refine ⟨fun _ => ⟨_, AT_st 1 hA, ?_⟩, fun q => absurd rfl q⟩
      have hS := (AT_st 1 hA).1.1
      refine pX11_tell X _ m hS _ e s r ((s_isEntry hS r e).I ?_)
      rintro v r1 ⟨rfl, rfl⟩
      rw [he]
      exact ⟨fun q => absurd rfl q, fun _ => cm_no hS (Pe.rf _) 1⟩
    exact ⟨fun _ => done 0, fun _ => done 5⟩
  · rw [if_pos rfl]
    obtain ⟨n, rfl, h1, h2⟩ := ent_of hc he
    have hN := hc.2.1.2
    have hnc : (nI n).toNatClampNeg = n := nI_clamp (by omega)
    rw [hnc]
    have hCe := h4.2.1 n h1 h2
    have h0 := K_nz hA.2.1.1 hCe.1.1
    refine ⟨fun hs => ?_, fun hs => ?_⟩
    · refine tX10_tell_18 X _ _ _ _ _ w1 ⟨fun _ => ⟨hC.1.1, (c_settle w1 x 0 hC.1.1).I ?_⟩, fun q => absurd q h0⟩
      rintro v w2 ⟨rfl, rfl⟩
      refine ⟨fun q => absurd q (by decide), fun _ => ⟨fun _ => ⟨hCe.1.1, ?_⟩, fun q => absurd q h0⟩⟩
      rintro w3 rfl
      have hT := AT_uJ (r' := uS r 41 0) (Or.inr (Or.inr ⟨rfl, rfl⟩)) h1 h2 s (AT_st 0 hA) (show RIx r from hA.2.2.2.2.2.2.1.2.2.2.2.2)
      refine ⟨_, hT, pX11_tell X _ m hT.1.1 _ _ s r ((s_isEntry hT.1.1 r _).I ?_)⟩
      rintro v r1 ⟨rfl, rfl⟩
      rw [he, hnc]
      refine ⟨fun _ => ⟨fun _ => ⟨inN (by omega) (by omega), ?_⟩, fun q => absurd hs q⟩, fun q => absurd q (by decide)⟩
      rintro r2 rfl r3 rfl
      exact ⟨rfl, Pe.rf _⟩
    · refine tX10_tell_18 X _ _ _ _ _ w1 ⟨fun _ => ⟨hC.1.1, (c_settle w1 x 5 hC.1.1).I ?_⟩, fun q => absurd q h0⟩
      rintro v w2 ⟨rfl, rfl⟩
      refine ⟨fun _ => ⟨_, AT_st 5 hA, ?_⟩, fun q => absurd rfl q⟩
      have hS := (AT_st 5 hA).1.1
      refine pX11_tell X _ m hS _ _ s r ((s_isEntry hS r _).I ?_)
      rintro v r1 ⟨rfl, rfl⟩
      rw [he]
      exact ⟨fun _ => ⟨fun q => absurd q hs, fun _ => cm_no hS (Pe.rf _) 5⟩, fun q => absurd q (by decide)⟩
