-- pure rows: HY
section
/-! pure rows: a value comes, and no fuel is taken -/
theorem v32 {x : Int32} {v : Int64} (h : x.toInt = v.toInt) : v.toInt32 = x := by
  apply Int32.toInt_inj.mp
  have h1 := Int32.le_toInt x
  have h2 := Int32.toInt_lt x
  rw [Int64.toInt_toInt32, ← h, Int.bmod_eq_of_le (by omega) (by omega)]
section
variable {cs : Nat → ClassId} {lim dE : Nat × Nat} {A : Ad} {r1 r2 NF : Nat} {X : Cx} {G : Nat → Int32} {k4 : Nat} {S S' : Sto} {μ μ' : Mp} {fa ta : Nat → Nat} {nf nt u v : Nat} {own : Nat → Nat} {Lf : List Nat} {Wk : Nat → Nat} {M M' : gMem} {w w' : Vw} {σ σ' : mSt} {al tk a h r n nd d cc m W Φ : Nat} {s : Nat → Int32} {mk : Fr} {ut F : Nat} {L : List Nat} {F2 : List Fr} {f b : Fr} {rest : List Fr} {t u0 u1 W1 : Nat} {e : Nat} {x1 : Int32} {g : Nat → Int}
theorem nmK (hX : X.Ok) (hn : nd < X.N) (hk : (X.A 5 nd).toInt = 3 ∨ (X.A 5 nd).toInt = 4 ∨ (X.A 5 nd).toInt = 5 ∨ (X.A 5 nd).toInt = 7 ∨ (X.A 5 nd).toInt = 8) : X.A 6 nd = nI (X.A 6 nd).toInt.toNat ∧ (X.A 6 nd).toInt.toNat < 10 := by
  have nm := hX.nm nd hn hk
  exact ⟨nI_ofT (by omega) (by omega), by omega⟩
theorem got_let {t0 ub : Nat} (hX : X.Ok) (hmk : mk.node = -1) (c : (SimC cs lim dE A r1 r2 NF X G k4) S μ fa ta nf nt u v own Lf Wk M w σ) (rn : Rn A NF w σ al tk) (tp : Tp X G S μ w (FsO ta v) A own σ mk ut F a L (f :: F2) b rest u1 W1) (fs : FSt w a s (h + 1) r) (bd : r ≤ 1700 ∧ 10 ≤ h ∧ h < 50) (vr : VR X.P S μ t (s h) σ.2.1) (q2 : f.node.toInt = nd) (q3 : Gd X nd) (kd : (X.A 5 nd).toInt = 4) (a1 : SR X.P S μ g s f.see) (a2 : Sbt X.P t t0) (a3 : Ty X.A X.P X.tk X.gv (env g (X.A 6 nd).toInt.toNat t0) (X.A 10 nd).toInt.toNat ub) (a4 : cOp G r = 3) (a5 : cFd G r 1 = X.A 6 nd) (a6 : Cd X.A G cc (X.A 10 nd).toInt.toNat (r + 1) m) (a7 : cOp G m = 4) (a8 : cFd G m 1 = X.A 6 nd) (a9 : DpOk X (X.A 10 nd).toInt.toNat (h + 1)) (a10 : Pd X G S μ d (m + 1) s h ub F2 u0 e) (bn : Bnd X G S μ w (FsO ta v) a b u0 u1 e) (hW : W + r = W1 + 1701) (hΦ : Φ = W + sumW Wk S.nk + (1000 - (σ.1 48).toInt.toNat) * 1701 + (al - tk) * 1701) (hn : 12 ≤ n) : ∃ σ', F_Mo_comes n σ x1 = (1, σ') ∧ (GoA cs lim dE A r1 r2 NF X G k4 mk ut) M σ' al tk Φ := by
  obtain ⟨F', rfl, ef, erf⟩ := rf_top tp hmk (node_ne q2)
  obtain ⟨e6, hK⟩ := nmK hX q3.1.1 (by omega)
  have hF := tp.hF
  have hpb := hX.pb nd q3.1.1 (by omega)
  have gp := q3.part hX (parts_b (n := nd) (by omega))
  have mb := a10.bd.1
  have ml := a6.lt
  obtain ⟨σ', e1, rw', hp, e48, e49⟩ := r_let (n := n) (x1 := x1) hX c.ar (F := F') (by have := tp.f44; omega) (by omega) hn (by rw [ef]; exact q2) q3.1.1 kd
  rw [ef] at rw'
  have ha := c.fsa tp.ow1
  obtain ⟨M1, w1, ⟨st, c1, rn1, ht1⟩, f1, o1⟩ := stp_bind c rn tp.top tp.ow1 fs bd.2.1 bd.2.2 bd.1 a4 (a5.trans e6) hK
  have dp : (h : Int) + 1 + (X.A 13 (X.A 10 nd).toInt.toNat).toInt ≤ 50 := by have := a9; unfold DpOk at this; omega
  have h50 : h + 1 < 50 := by have := gp.2.2; omega
  refine ⟨σ', e1, goNow (F' := F') (rx := r + 1) (h2 := h + 1) (nd := (X.A 10 nd).toInt.toNat) tp c o1 c1 rn1 (CSts.one st) rw' hp e48 e49 (by omega) erf (Int.toNat_of_nonneg hpb).symm gp.1 a9 (by omega) f1 a6 a3 (a1.xenv (fun k hk hne => ?_) (fun k hk hne => by rw [if_neg hne]) ?_) ⟨d + 1, u0, e, ⟨⟨by omega, by omega, h50⟩, Or.inr (Or.inl ⟨_, hK, a7, a8.trans e6, by omega, ?_⟩)⟩, bn.mono Sto.le.rfl' MpLe.rfl' (o1.2.2 a 3) (c.tvo ha o1)⟩ hW (by omega) (by omega) hΦ⟩
  · rw [upd_n hne, upd_n (by omega)]
  · rw [upd_s, if_pos rfl]; exact vr.sub hX.fo a2
  · rw [Nat.add_sub_cancel]
    refine a10.cong (fun j hj => ?_)
    by_cases z : j = (X.A 6 nd).toInt.toNat
    · rw [z, upd_s, upd_n (by omega), upd_s]
    · rw [upd_n z, upd_n z, upd_n (by omega)]
theorem got_if {ub l : Nat} (hX : X.Ok) (hmk : mk.node = -1) (c : (SimC cs lim dE A r1 r2 NF X G k4) S μ fa ta nf nt u v own Lf Wk M w σ) (rn : Rn A NF w σ al tk) (tp : Tp X G S μ w (FsO ta v) A own σ mk ut F a L (f :: F2) b rest u1 W1) (fs : FSt w a s (h + 1) r) (bd : r ≤ 1700 ∧ 10 ≤ h ∧ h < 50) (vr : VR X.P S μ t (s h) σ.2.1) (q2 : f.node.toInt = nd) (q3 : Gd X nd) (kd : (X.A 5 nd).toInt = 6) (a1 : SR X.P S μ g s f.see) (a2 : t = 1) (a3 : Ty X.A X.P X.tk X.gv g (X.A 10 nd).toInt.toNat ub) (a4 : Ty X.A X.P X.tk X.gv g (X.A 11 nd).toInt.toNat ub) (a5 : cOp G r = 6) (a6 : cFd G r 1 = nI (m + 1)) (a7 : Cd X.A G cc (X.A 10 nd).toInt.toNat (r + 1) m) (a8 : cOp G m = 5) (a9 : cFd G m 1 = nI l) (a10 : Cd X.A G cc (X.A 11 nd).toInt.toNat (m + 1) l) (a11 : DpOk X (X.A 10 nd).toInt.toNat h) (a12 : DpOk X (X.A 11 nd).toInt.toNat h) (a13 : Pd X G S μ d l s h ub F2 u0 e) (bn : Bnd X G S μ w (FsO ta v) a b u0 u1 e) (hW : W + r = W1 + 1701) (hΦ : Φ = W + sumW Wk S.nk + (1000 - (σ.1 48).toInt.toNat) * 1701 + (al - tk) * 1701) (hn : 12 ≤ n) : ∃ σ', F_Mo_comes n σ x1 = (1, σ') ∧ (GoA cs lim dE A r1 r2 NF X G k4 mk ut) M σ' al tk Φ := by
  obtain ⟨F', rfl, ef, erf⟩ := rf_top tp hmk (node_ne q2)
  have hF := tp.hF
  have hpb := hX.pb nd q3.1.1 (by omega)
  have hpc := hX.pc nd q3.1.1 (by omega)
  have mb := a13.bd.1
  have l7 := a7.lt
  have l10 := a10.lt
  obtain ⟨σ', e1, rw', hp, e48, e49⟩ := r_if (n := n) (x1 := x1) c.ar (F := F') (by have := tp.f44; omega) (by omega) hn (by rw [ef]; exact q2) q3.1.1 kd
  rw [ef] at rw'
  have ha := c.fsa tp.ow1
  obtain ⟨M1, w1, ⟨st, c1, rn1, ht1⟩, f1, o1⟩ := stp_jif c rn tp.top tp.ow1 fs bd.2.1 bd.2.2 bd.1 a5 a6
  have vb := vr.base (by omega)
  have b' := bn.mono (w' := w1) Sto.le.rfl' MpLe.rfl' (o1.2.2 a 3) (c.tvo ha o1)
  have z0 : (0 : Int32).toInt = 0 := rfl
  by_cases z : s h = 0
  · have zz : σ.2.1.toInt = 0 := by rw [← vb, z, z0]
    rw [if_pos z] at f1
    rw [if_pos zz] at rw'
    exact ⟨σ', e1, goNow (F' := F') (rx := m + 1) (h2 := h) (nd := (X.A 11 nd).toInt.toNat) tp c o1 c1 rn1 (CSts.one st) rw' hp e48 e49 (by omega) erf (Int.toNat_of_nonneg hpc).symm (q3.part hX (parts_c (n := nd) kd)).1 a12 bd.2.1 f1 a10 a4 a1 ⟨d, u0, e, a13, b'⟩ hW (by omega) (by omega) hΦ⟩
  · have zz : ¬ σ.2.1.toInt = 0 := fun q => z (Int32.toInt_inj.mp (by rw [vb, q, z0]))
    rw [if_neg z] at f1
    rw [if_neg zz] at rw'
    exact ⟨σ', e1, goNow (F' := F') (rx := r + 1) (h2 := h) (nd := (X.A 10 nd).toInt.toNat) tp c o1 c1 rn1 (CSts.one st) rw' hp e48 e49 (by omega) erf (Int.toNat_of_nonneg hpb).symm (q3.part hX (parts_b (n := nd) (by omega))).1 a11 bd.2.1 f1 a7 a3 a1 ⟨d + 1, u0, e, ⟨⟨by omega, bd.2⟩, Or.inr (Or.inr (Or.inl ⟨l, a8, a9, by omega, a13⟩))⟩, b'⟩ hW (by omega) (by omega) hΦ⟩
/-- the second part of two or call begins -/
theorem got_snd {ub t2 : Nat} (hX : X.Ok) (hmk : mk.node = -1) (c : (SimC cs lim dE A r1 r2 NF X G k4) S μ fa ta nf nt u v own Lf Wk M w σ) (rn : Rn A NF w σ al tk) (tp : Tp X G S μ w (FsO ta v) A own σ mk ut F a L (f :: F2) b rest u1 W1) (fs : FSt w a s (h + 1) r) (bd : r ≤ 1700 ∧ 10 ≤ h ∧ h < 50) (q2 : f.node.toInt = nd) (q3 : Gd X nd) (kd : (X.A 5 nd).toInt = 9 ∨ (X.A 5 nd).toInt = 10) (ks : f.stage = 0) (a1 : SR X.P S μ g s f.see) (a3 : Ty X.A X.P X.tk X.gv g (X.A 10 nd).toInt.toNat t2) (a4 : Cd X.A G cc (X.A 10 nd).toInt.toNat r m) (a7 : DpOk X (X.A 10 nd).toInt.toNat (h + 1)) (hm : m ≤ 1700) (p : h + 1 < 50 → Pd X G S μ d m s (h + 1) t2 (⟨f.node, 1, σ.2.1, f.see⟩ :: F2) u0 e) (bn : Bnd X G S μ w (FsO ta v) a b u0 u1 e) (hW : W + r = W1 + 1701) (hΦ : Φ = W + sumW Wk S.nk + (1000 - (σ.1 48).toInt.toNat) * 1701 + (al - tk) * 1701) (hn : 12 ≤ n) : ∃ σ', F_Mo_comes n σ x1 = (1, σ') ∧ (GoA cs lim dE A r1 r2 NF X G k4 mk ut) M σ' al tk Φ := by
  obtain ⟨F', rfl, ef, erf⟩ := rf_top tp hmk (node_ne q2)
  have hF := tp.hF
  have hpb := hX.pb nd q3.1.1 (by omega)
  have gp := q3.part hX (parts_b (n := nd) (by omega))
  obtain ⟨σ', e1, rw', hp, e48, e49⟩ := r_snd (n := n) (x1 := x1) c.ar (F := F') (by have := tp.f44; omega) (by omega) hn (by rw [ef]; exact q2) q3.1.1 kd (by rw [ef]; exact ks)
  rw [ef] at rw'
  have dp : (h : Int) + 1 + (X.A 13 (X.A 10 nd).toInt.toNat).toInt ≤ 50 := by have := a7; unfold DpOk at this; omega
  have h50 : h + 1 < 50 := by have := gp.2.2; omega
  exact ⟨σ', e1, goNow (F' := F' + 1) (rx := r) (h2 := h + 1) (nd := (X.A 10 nd).toInt.toNat) tp c Oth1.rfl' c rn (k := 0) rfl rw' hp e48 e49 (by omega) (by rw [List.cons_append, erf]; rfl) (Int.toNat_of_nonneg hpb).symm gp.1 a7 (by omega) fs a4 a3 a1 ⟨d, u0, e, p h50, bn⟩ hW (by omega) (by omega) hΦ⟩
theorem got_two (hmk : mk.node = -1) (c : (SimC cs lim dE A r1 r2 NF X G k4) S μ fa ta nf nt u v own Lf Wk M w σ) (rn : Rn A NF w σ al tk) (tp : Tp X G S μ w (FsO ta v) A own σ mk ut F a L (f :: F2) b rest u1 W1) (fs : FSt w a s (h + 1) r) (bd : r ≤ 1700 ∧ 10 ≤ h ∧ h < 50) (vr : VR X.P S μ t (s h) σ.2.1) (q2 : f.node.toInt = nd) (q3 : Gd X nd) (kd : (X.A 5 nd).toInt = 9) (ks : f.stage ≠ 0) (a1 : t = 0) (a2 : 11 ≤ h) (a3 : cOp G r = 7) (a4 : cFd G r 1 = X.A 6 nd) (a5 : VR X.P S μ 0 (s (h - 1)) f.val) (a6 : Pd X G S μ d (r + 1) s (h - 1) (sg2 (X.A 6 nd)) F2 u0 e) (bn : Bnd X G S μ w (FsO ta v) a b u0 u1 e) (hW : W + r = W1 + 1701) (hΦ : Φ = W + sumW Wk S.nk + (1000 - (σ.1 48).toInt.toNat) * 1701 + (al - tk) * 1701) : ∃ σ', F_Mo_comes n σ x1 = (1, σ') ∧ (GoA cs lim dE A r1 r2 NF X G k4 mk ut) M σ' al tk Φ := by
  obtain ⟨F', rfl, ef, erf⟩ := rf_top tp hmk (node_ne q2)
  obtain ⟨hh, rfl⟩ : ∃ z, h = z + 1 := ⟨h - 1, by omega⟩
  rw [Nat.add_sub_cancel] at a5 a6
  have hF := tp.hF
  have mb := a6.bd
  obtain ⟨σ', e1, rw', hp, e48, e49⟩ := r_two (n := n) (x1 := x1) c.ar (F := F') (by have := tp.f44; omega) (by omega) (by rw [ef]; exact q2) q3.1.1 kd (by rw [ef]; exact ks)
  rw [ef, v32 (a5.base (by omega)), v32 (vr.base (by omega))] at rw'
  have ha := c.fsa tp.ow1
  obtain ⟨M1, w1, ⟨st, c1, rn1, ht1⟩, f1, o1⟩ := stp_two c rn tp.top tp.ow1 fs (by omega) (by omega) bd.1 a3
  rw [a4] at f1
  have hs2 : sg2 (X.A 6 nd) < 3 := by unfold sg2; split <;> omega
  refine ⟨σ', e1, goGot (F' := F') (rx := r + 1) (h2 := hh) tp c o1 c1 rn1 (CSts.one st) rw' hp e48 e49 (by omega) erf f1 ?_ ⟨d, u0, e, a6.cong (fun j hj => by rw [upd_n (by omega)]), bn.mono Sto.le.rfl' MpLe.rfl' (o1.2.2 a 3) (c.tvo ha o1)⟩ hW (by omega) (by omega) hΦ⟩
  rw [upd_s]
  exact Or.inl ⟨hs2, (Int32.toInt_toInt64 _).symm⟩
end
end
