-- pure rows: IC
section
/-! pure rows: a node is worked: those that wait, by kind; functions are made -/
section
variable {cs : Nat → ClassId} {lim dE : Nat × Nat} {A : Ad} {r1 r2 NF : Nat} {X : Cx} {G : Nat → Int32} {k4 : Nat} {S S' : Sto} {μ μ' : Mp} {fa ta ta' : Nat → Nat} {nf nt nt' u v : Nat} {own : Nat → Nat} {Lf : List Nat} {Wk : Nat → Nat} {M M' : gMem} {w w' : Vw} {σ σ' : mSt} {al tk a h r n nd d cc m W Φ l r' : Nat} {s : Nat → Int32} {mk : Fr} {ut F : Nat} {L : List Nat} {Fs : List Fr} {b : Fr} {rest : List Fr} {t u0 u1 W1 : Nat} {e : Nat} {x1 : Int32} {g : Nat → Int}
theorem now_waits (hX : X.Ok) (c : (SimC cs lim dE A r1 r2 NF X G k4) S μ fa ta nf nt u v own Lf Wk M w σ) (rn : Rn A NF w σ al tk) (tp : Tp X G S μ w (FsO ta v) A own σ mk ut F a L Fs b rest u1 W1) (f45 : (σ.1 45).toInt = nd) (gd : Gd X nd) (kd : (X.A 5 nd).toInt = 4 ∨ (X.A 5 nd).toInt = 6 ∨ (X.A 5 nd).toInt = 9 ∨ (X.A 5 nd).toInt = 10 ∨ (X.A 5 nd).toInt = 11) (dp : DpOk X nd h) (fs : FSt w a s h r) (cd : Cd X.A G cc nd r r') (ty : Ty X.A X.P X.tk X.gv g nd t) (sr : SR X.P S μ g s (nsee σ)) (bk : Bk X G S μ w (FsO ta v) a r' s h Fs b t u1) (hW : W + r = W1 + 1701) (hΦ : Φ = W + sumW Wk S.nk + (1000 - (σ.1 48).toInt.toNat) * 1701 + (al - tk) * 1701) (hn : 12 ≤ n) (hb : F + 1 ≤ 16440) : (GoA cs lim dE A r1 r2 NF X G k4 mk ut) M (F_Mo_workNode n σ) al tk Φ := by
  obtain ⟨d, u0, e, pd, bn⟩ := bk
  have bd := pd.bd
  have k11 := (hX.kd nd gd.1.1).2
  have lt := cd.lt
  have dpb : ∀ p, p ∈ parts X.A nd → DpOk X p (h + 1) ∧ DpOk X p h := fun p hp => by
    have := (gd.part hX hp).2.1
    unfold DpOk at dp ⊢
    constructor <;> omega
  rcases kd with k | k | k | k | k
  · obtain ⟨c0, m, m', q1, q2, q3, q4, q5, q6, rfl⟩ := cd.j4 k
    obtain ⟨t0, y1, y2⟩ := ty.i4 k
    have l1 := q1.lt
    have l4 := q4.lt
    exact now_push hX c rn tp f45 gd (Or.inl k) dp bd.2.1 fs q1 y1 sr (by omega) ⟨d + 1, u0, e, ⟨⟨by omega, bd.2⟩, Or.inr (Or.inr (Or.inr ⟨_, Fs, nd, rfl, f45, gd, Or.inl ⟨k, g, t0, t, c0, m', sr, .rfl', y2, q2, q3, q4, q5, q6, (dpb _ (parts_b (by omega))).1, pd⟩⟩))⟩, bn⟩ hW hΦ hn hb
  · obtain ⟨c0, m, m', q1, q2, q3, q4, q5, q6, q7⟩ := cd.j6 k
    obtain ⟨y1, y2, y3⟩ := ty.i6 k
    have l1 := q1.lt
    have l4 := q4.lt
    have l7 := q7.lt
    exact now_push hX c rn tp f45 gd (Or.inr (Or.inl k)) dp bd.2.1 fs q1 y1 sr (by omega) ⟨d + 1, u0, e, ⟨⟨by omega, bd.2⟩, Or.inr (Or.inr (Or.inr ⟨_, Fs, nd, rfl, f45, gd, Or.inr (Or.inl ⟨k, g, t, c0, m', r', sr, rfl, y2, y3, q2, nI_ofT q3 (by omega), q4, q5, nI_ofT q6 (by omega), q7, (dpb _ (parts_b (by omega))).2, (dpb _ (parts_c k)).2, pd⟩)⟩))⟩, bn⟩ hW hΦ hn hb
  · obtain ⟨c0, m, m', q1, q2, q3, q4, rfl⟩ := cd.j9 k
    obtain ⟨y1, y2, y3⟩ := ty.i9 k
    have l1 := q1.lt
    have l4 := q2.lt
    subst y3
    exact now_push hX c rn tp f45 gd (Or.inr (Or.inr (Or.inl k))) dp bd.2.1 fs q1 y1 sr (by omega) ⟨d + 1, u0, e, ⟨⟨by omega, bd.2⟩, Or.inr (Or.inr (Or.inr ⟨_, Fs, nd, rfl, f45, gd, Or.inr (Or.inr (Or.inl ⟨k, rfl, g, c0, m', sr, rfl, y2, q2, q3, q4, (dpb _ (parts_b (by omega))).1, pd⟩))⟩))⟩, bn⟩ hW hΦ hn hb
  · obtain ⟨c0, m, m', q1, q2, q3, rfl⟩ := cd.j10 k
    obtain ⟨f0, a0, t2, y1, y2, y3, y4⟩ := ty.i10 k
    have l1 := q1.lt
    have l4 := q2.lt
    exact now_push hX c rn tp f45 gd (Or.inr (Or.inr (Or.inr (Or.inl k)))) dp bd.2.1 fs q1 y1 sr (by omega) ⟨d + 1, u0, e, ⟨⟨by omega, bd.2⟩, Or.inr (Or.inr (Or.inr ⟨_, Fs, nd, rfl, f45, gd, Or.inr (Or.inr (Or.inr (Or.inr (Or.inl ⟨k, rfl, g, f0, a0, t, t2, c0, m', sr, .rfl', y2, y3, y4, q2, q3, (dpb _ (parts_b (by omega))).1, pd⟩))))⟩))⟩, bn⟩ hW hΦ hn hb
  · obtain ⟨c0, m, q1, q2, q3, rfl⟩ := cd.j11 k
    obtain ⟨t2, y1, y2, y3⟩ := ty.i11 k
    have l1 := q1.lt
    subst y3
    exact now_push hX c rn tp f45 gd (Or.inr (Or.inr (Or.inr (Or.inr k)))) dp bd.2.1 fs q1 y1 sr (by omega) ⟨d + 1, u0, e, ⟨⟨by omega, bd.2⟩, Or.inr (Or.inr (Or.inr ⟨_, Fs, nd, rfl, f45, gd, Or.inr (Or.inr (Or.inr (Or.inr (Or.inr (Or.inr ⟨k, q2, q3, .of y2, pd⟩)))))⟩))⟩, bn⟩ hW hΦ hn hb
/-- the reference's store with a function more -/
def stoF (S : Sto) (τ : Nat) : Sto := ⟨S.nf + 1, S.nk, fun i => if i = S.nf then τ else S.ft i, S.kt⟩
theorem stoF_le {τ : Nat} : S.le (stoF S τ) := ⟨Nat.le_succ _, Nat.le_refl _, fun i hi => by show (if i = S.nf then τ else S.ft i) = _; rw [if_neg (by omega)], fun _ _ => rfl⟩
def mapF (S : Sto) (μ : Mp) (v : Nat) : Mp := (fun i => if i = S.nf then v else μ.1 i, μ.2)
theorem mapF_le : MpLe S μ (mapF S μ v) := ⟨fun i hi => by show (if i = S.nf then v else μ.1 i) = _; rw [if_neg (by omega)], fun _ _ => rfl⟩
/-- a function is made: what both keep of it -/
theorem SimC.make {τ T : Nat} {x : Int32} (c : (SimC cs lim dE A r1 r2 NF X G k4) S μ fa ta nf nt u v own Lf Wk M w σ) (vs' : (VS cs lim dE A r1 r2 NF G k4) fa ta' nf nt' M' w') (hnt : nt ≤ nt' ∧ (∀ i, i < nt → ta' i = ta i) ∧ v < nt') (hv1 : v < 1000) (hT : σ.1 48 = nI T) (hT1 : T < 1000) (m7 : w'.2.1 A.ma 7 = nI (T + 1)) (mI : MaI w w' A.ma [7]) (s3 : w'.2.1 A.st 3 = nI (v + 1)) (sI : MaI w w' A.st [3]) (sQ : ∀ k, w'.2.2 A.st k = w.2.2 A.st k) (ha : FsO fa nf a) (ho : own a = 1) (sm : ∀ c', c' ≠ a → c' ≠ ta' v → c' ≠ A.ma → c' ≠ A.st → Same w w' c') (p : MakesP σ σ' S.nf x) (new : FnR X G (stoF S τ) (mapF S μ v) w' ta' (v + 1) x (nsee σ) S.nf) : (SimC cs lim dE A r1 r2 NF X G k4) (stoF S τ) (mapF S μ v) fa ta' nf nt' u (v + 1) own Lf Wk M' w' σ' := by
  have hT' : FsO ta' nt' (ta' v) := ⟨v, hnt.2.2, rfl⟩
  have v1 := c.v1
  have tS : ∀ i, i < v → ta' i = ta i ∧ Same w w' (ta i) := fun i hi => by
    have ti := c.tv (z := ta i) ⟨i, hi, rfl⟩
    have e := hnt.2.1 i (by omega)
    refine ⟨e, sm _ (fun z => c.vs.neFT ha ti z.symm) (fun z => ?_) (c.vs.neTM ti) (c.vs.neTS ti)⟩
    have := vs'.ti i v (by omega) hnt.2.2 (by rw [e, z])
    omega
  have hS : ∀ z, 2 ≤ own z → Same w w' z := fun z hz => by
    have hz' := c.fs (c := z) (by omega)
    exact sm z (fun q => by rw [q, ho] at hz; omega) (fun q => vs'.neFT (hz'.le (Nat.le_refl _) (fun _ _ => rfl)) hT' q) (c.vs.neFM hz') (c.vs.neFS hz')
  have e48 : (σ'.1 48).toInt = T + 1 := by rw [p.f48, hT, nT (by omega)]
  have hp : ∀ k, k ≠ 54 → σ'.2.2.1 k = σ.2.2.1 k := p.a
  have ek : kfr σ' = kfr σ := kfr_of (fun k hk => hp k (by omega)) (fun k hk => p.al k (by omega))
  refine ⟨vs', by rw [sI 2 (by decide)]; exact c.su, c.uN, s3, ⟨by omega, by omega⟩, ⟨by rw [sQ]; exact c.lf.1.cong (fun z hz => (hS z (by rw [c.lf.2.2 z hz]; omega)).2.2 4), c.lf.2⟩, c.ou, ⟨?_, by omega, by omega⟩, ?_, ?_, ?_, ?_, ?_, ?_, ?_, fun f hf => ?_, fun k hk => ?_, c.ki, ?_, ?_, ?_, ?_⟩
  · rw [m7]; exact (nI_ofT (by rw [e48]; omega) (by omega)).symm
  · rw [mI 8 (by decide), p.f 49 (by omega) (by omega)]; exact c.dp
  · rw [mI 6 (by decide), p.f 47 (by omega) (by omega)]; exact c.fu
  · rw [mI 9 (by decide)]; exact c.un
  · rw [mI 5 (by decide)]; exact c.va
  · have := p.f56; show (σ'.1 56).toInt = ((S.nf + 1 : Nat) : Int); omega
  · rw [p.f 61 (by omega) (by omega)]; exact c.nk
  · exact c.ar.congr (fun k _ _ => hp k (by omega))
  · rw [p.a54 f, p.fs f]
    have hf' : f < S.nf + 1 := hf
    by_cases q : f = S.nf
    · subst q; rw [if_pos rfl, if_pos rfl]; exact new
    · rw [if_neg q, if_neg q]
      exact (c.fn f (by omega)).mono (by omega) stoF_le mapF_le (by omega) (fun i hi => ⟨(tS i hi).1, (tS i hi).2.T⟩)
  · have hk' : k < S.nk := hk
    have kk := c.kn k hk'
    have hlt : μ.2 k < v := by obtain ⟨_, _, ⟨z, _⟩, _⟩ := kk; exact z
    refine kk.mono hk' stoF_le mapF_le (by omega) (fun i hi => ⟨(tS i hi).1, (tS i hi).2.T⟩) ((tS _ hlt).2.2.1 3) (fun z hz => ⟨hS z (by omega), hz⟩) (by rw [hp 60 (by omega)]) (by rw [hp 59 (by omega)]) ?_ rfl
    rw [hp 57 (by omega), hp 58 (by omega)]
    exact kfs_c (fun i _ _ => by rw [ek])
  · have h1 := c.hw
    rw [hT, nT (by omega)] at h1
    rw [e48]
    show ((sumW Wk S.nk : Nat) : Int) ≤ _
    omega
  · have h1 := c.vt
    rw [hT, nT (by omega)] at h1
    omega
  · have h1 := c.sn
    rw [hT, nT (by omega)] at h1
    show ((S.nf + 1 : Nat) : Int) + S.nk ≤ _
    omega
  · have h1 := c.uf
    rw [hT, nT (by omega)] at h1
    rw [p.f 47 (by omega) (by omega)]
    omega
end
end
