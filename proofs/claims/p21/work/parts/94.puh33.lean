-- pure rows: IN
section
/-! pure rows: a value comes to the frame on top, on both sides -/
theorem run_kF {X : Cx} (hX : X.Ok) {S : Sto} {σ : mSt} {K q F c w t u : Nat} {d : Int} (run : RunJ X S σ K q (F + 1) c w t u d) (hct : ctd X.A (frm σ F).node = 0) {k : Nat} (hk : k < S.nk) : ∃ f m : Nat, (σ.2.2.1 57 k).toInt = f ∧ (σ.2.2.1 58 k).toInt = m ∧ f + m ≤ 42000 ∧ (σ.1 49 + σ.2.2.1 59 k ≤ 400 → F + 1 + m ≤ 17000) := by
  obtain ⟨f, m, a1, u1, ck, wk, dk, k57, k58, k59, kfm, km, kct, kfn, kseg⟩ := run.hp.ko k hk
  have hkK := run.hp.hk
  have th := run.hp.th
  have f49 := run.f49
  have c400 := run.c400
  obtain ⟨v, c', w', d', tp, -⟩ := run.top
  have hc := tp.hc
  rw [hct] at hc
  have b1 := tp.seg.bound hX
  have b2 := kseg.bound hX
  have hck := kseg.cle
  refine ⟨f, m, k57, k58, by omega, fun h => ?_⟩
  have i49 : c' + ck ≤ 400 := by clear run tp kseg kfn kct hct; ((try (simp only [vp_in, Int32.toNatClampNeg, Int32.lt_iff_toInt_lt, Int32.le_iff_toInt_le, ← Int32.toInt_inj, Int32.toInt_add, Int32.toInt_sub, Int32.toInt_mul, Int32.reduceToInt, i32_neg1, Nat.reducePow, Int.reducePow, ne_eq, ge_iff_le, gt_iff_lt] at *)) <;> (first | omega | ((simp (disch := omega) only [bm32] at *) <;> omega)))
  omega
theorem come47 {X : Cx} {σ σ' : mSt} {F n nd : Nat} {x1 : Int32} (hX : X.Ok) (arr : Arr X σ) (f44 : (σ.1 44).toInt = F + 1) (hF : F < 16900) (hn : 12 ≤ n) (hnd : (frm σ F).node.toInt = nd) (hN : nd < X.N) (kd : (X.A 5 nd).toInt = 4 ∨ (X.A 5 nd).toInt = 6 ∨ (X.A 5 nd).toInt = 8 ∨ (X.A 5 nd).toInt = 9 ∨ ((X.A 5 nd).toInt = 10 ∧ (frm σ F).stage = 0)) (e : F_Mo_comes n σ x1 = (1, σ')) : σ'.1 47 = σ.1 47 := by
  have key : ∀ σ2, F_Mo_comes n σ x1 = (1, σ2) → σ2.1 47 = σ.1 47 → σ'.1 47 = σ.1 47 := fun σ2 e2 h => by
    have q : σ' = σ2 := congrArg Prod.snd (e.symm.trans e2)
    rw [q]; exact h
  rcases kd with k | k | k | k | ⟨k, ks⟩
  · obtain ⟨σ2, e2, r, -⟩ := r_let (n := n) (x1 := x1) hX arr f44 (by omega) hn hnd hN k
    exact key σ2 e2 r.f47
  · obtain ⟨σ2, e2, r, -⟩ := r_if (n := n) (x1 := x1) arr f44 (by omega) hn hnd hN k
    exact key σ2 e2 r.f47
  · obtain ⟨σ2, e2, ⟨fr, -, r⟩, -⟩ := r_han (n := n) (x1 := x1) hX arr f44 hF hn hnd hN k
    exact key σ2 e2 r.f47
  · by_cases ks : (frm σ F).stage = 0
    · obtain ⟨σ2, e2, r, -⟩ := r_snd (n := n) (x1 := x1) arr f44 (by omega) hn hnd hN (Or.inl k) ks
      exact key σ2 e2 r.f47
    · obtain ⟨σ2, e2, r, -⟩ := r_two (n := n) (x1 := x1) arr f44 (by omega) hnd hN k ks
      exact key σ2 e2 r.f47
  · obtain ⟨σ2, e2, r, -⟩ := r_snd (n := n) (x1 := x1) arr f44 (by omega) hn hnd hN (Or.inr k) ks
    exact key σ2 e2 r.f47
section
variable {cs : Nat → ClassId} {lim dE : Nat × Nat} {A : Ad} {r1 r2 NF : Nat} {X : Cx} {G : Nat → Int32} {k4 : Nat} {S S' : Sto} {μ μ' : Mp} {fa fa' ta ta' : Nat → Nat} {nf nf' nt nt' u v v' : Nat} {own : Nat → Nat} {Lf : List Nat} {Wk : Nat → Nat} {M M' : gMem} {w w' : Vw} {σ σ' : mSt} {al tk a h r n nd d cc m W Φ Φ1 l r' T D f' k : Nat} {s : Nat → Int32} {mk : Fr} {ut F : Nat} {L : List Nat} {F2 Fs : List Fr} {f b : Fr} {rest : List Fr} {t u0 u1 W1 : Nat} {e : Nat} {x1 : Int32} {g : Nat → Int}
theorem GoA.pre (g : (GoA cs lim dE A r1 r2 NF X G k4 mk ut) M' σ' al tk Φ1) (st : CSts cs dE A k M M') (h : Φ1 + k ≤ Φ) : (GoA cs lim dE A r1 r2 NF X G k4 mk ut) M σ' al tk Φ := by
  obtain ⟨k2, M2, Φ2, s2, sa, hp⟩ := g
  exact ⟨k + k2, M2, Φ2, st.trans s2, sa, by omega⟩
theorem EnA.pre (g : (EnA cs lim dE A r1 r2 NF G k4 ut) M' σ' tk Φ1) (st : CSts cs dE A k M M') (h : Φ1 + k ≤ Φ) : (EnA cs lim dE A r1 r2 NF G k4 ut) M σ' tk Φ := by
  obtain ⟨k2, M2, s2, sa, hp⟩ := g
  exact ⟨k + k2, M2, st.trans s2, sa, by omega⟩
theorem WaA.pre (g : (WaA cs lim dE A r1 r2 NF X G k4 mk ut) M' σ' tk Φ1) (st : CSts cs dE A k M M') (h : Φ1 + k ≤ Φ) : (WaA cs lim dE A r1 r2 NF X G k4 mk ut) M σ' tk Φ := by
  obtain ⟨k2, M2, s2, sa, hp⟩ := g
  exact ⟨k + k2, M2, st.trans s2, sa, by omega⟩
theorem GoA.en (g : (GoA cs lim dE A r1 r2 NF X G k4 mk ut) M σ' al tk Φ) : σ'.1 46 = 1 := by
  obtain ⟨k2, M2, Φ2, s2, ⟨_, _, _, _, _, _, _, _, _, _, _, _, _, _, rn, _⟩, hp⟩ := g
  exact rn.en
/-- what a step of the reference, at a value, is answered by -/
def GotR (cs : Nat → ClassId) (lim dE : Nat × Nat) (A : Ad) (r1 r2 NF : Nat) (X : Cx) (G : Nat → Int32) (k4 : Nat) (mk : Fr) (ut : Nat) (M : gMem) (σ : mSt) (n : Nat) (x1 : Int32) (al tk Φ : Nat) : Prop :=
  (F_Mo_comes n σ x1 = (0, σ) ∧ WaA cs lim dE A r1 r2 NF X G k4 mk ut M σ tk Φ) ∨ ∃ (σ' : mSt) (tk' : Nat), F_Mo_comes n σ x1 = (1, σ') ∧ (tk' = tk ∧ σ'.1 47 = σ.1 47 ∨ (tk' = tk + 1 ∧ tk < al) ∧ σ'.1 47 = σ.1 47 + 1) ∧ ((σ'.1 46 = 1 ∧ GoA cs lim dE A r1 r2 NF X G k4 mk ut M σ' al tk' Φ) ∨ (σ'.1 46 ≠ 1 ∧ EnA cs lim dE A r1 r2 NF G k4 ut M σ' tk' Φ))
theorem step_got {S0 : Sto} {K0 Q0 C0 Z0 T0 U0 : Nat} {D0 : Int} (hX : X.Ok) (hmk : mk.node = -1) (c : (SimC cs lim dE A r1 r2 NF X G k4) S μ fa ta nf nt u v own Lf Wk M w σ) (rn : Rn A NF w σ al tk) (tp : Tp X G S μ w (FsO ta v) A own σ mk ut F a L Fs b rest u1 W1) (gv : σ.1 51 ≠ 0) (fs : FSt w a s (h + 1) r) (vr : VR X.P S μ t (s h) σ.2.1) (bk : Bk X G S μ w (FsO ta v) a r s h Fs b t u1) (hW : W + r = W1 + 1701) (hΦ : Φ = W + sumW Wk S.nk + (1000 - (σ.1 48).toInt.toNat) * 1701 + (al - tk) * 1701) (hn : 42100 ≤ n) (hx : x1.toInt = ((al - tk : Nat) : Int)) (h44 : F ≠ 0) (run : RunJ X S0 σ K0 Q0 F C0 Z0 T0 U0 D0) (hV : V X.P S0 σ.2.1 T0) :
    GotR cs lim dE A r1 r2 NF X G k4 mk ut M σ n x1 al tk Φ := by
  obtain ⟨F1, rfl⟩ : ∃ z, F = z + 1 := ⟨F - 1, by omega⟩
  have hF := tp.hF
  have f44 := tp.f44
  have f441 : (σ.1 44).toInt = F1 + 1 := by omega
  obtain ⟨d, u0, e, pd, bn⟩ := bk
  have ha := c.fsa tp.ow1
  obtain ⟨k, M', w', s', h', r', d', st, c', rn', top', fs', es, o, hr, bd, fin⟩ := quiet d c rn tp.top tp.ow1 fs pd
  have tp' := tp.oth (w' := w') (σ' := σ) (Fs' := Fs) (F' := F1 + 1) c o f44 hF rfl tp.rf
  have bn' := bn.mono (S' := S) (μ' := μ) Sto.le.rfl' MpLe.rfl' (o.2.2 a 3) (c.tvo ha o)
  have vr' : VR X.P S μ t (s' h') σ.2.1 := by rw [es]; exact vr
  obtain ⟨W', hW'⟩ : ∃ W', W' + r' = W1 + 1701 := ⟨W1 + 1701 - r', by clear fin; omega⟩
  obtain ⟨Φ', hΦ'⟩ : ∃ Φ', Φ' = W' + sumW Wk S.nk + (1000 - (σ.1 48).toInt.toNat) * 1701 + (al - tk) * 1701 := ⟨_, rfl⟩
  have hk : Φ' + k ≤ Φ := by clear fin; omega
  have h1 : 1 ≤ Φ' := by clear fin; omega
  have gg : ∀ {σ' : mSt}, F_Mo_comes n σ x1 = (1, σ') → (GoA cs lim dE A r1 r2 NF X G k4 mk ut) M' σ' al tk Φ' → σ'.1 47 = σ.1 47 → GotR cs lim dE A r1 r2 NF X G k4 mk ut M σ n x1 al tk Φ := fun {σ'} z1 z2 z3 => Or.inr ⟨σ', tk, z1, Or.inl ⟨rfl, z3⟩, Or.inl ⟨z2.en, z2.pre st hk⟩⟩
  have gc : tk < al → (∃ σ', F_Mo_comes n σ x1 = (1, σ') ∧ σ'.1 47 = σ.1 47 + 1 ∧ ((σ'.1 46 = 1 ∧ (GoA cs lim dE A r1 r2 NF X G k4 mk ut) M' σ' al (tk + 1) Φ') ∨ (σ'.1 46 ≠ 1 ∧ (EnA cs lim dE A r1 r2 NF G k4 ut) M' σ' (tk + 1) Φ'))) → GotR cs lim dE A r1 r2 NF X G k4 mk ut M σ n x1 al tk Φ := fun z0 ⟨σ', z1, z2, z3⟩ => Or.inr ⟨σ', tk + 1, z1, Or.inr ⟨⟨rfl, z0⟩, z2⟩, by
    rcases z3 with ⟨y1, y2⟩ | ⟨y1, y2⟩
    · exact Or.inl ⟨y1, y2.pre st hk⟩
    · exact Or.inr ⟨y1, y2.pre st hk⟩⟩
  rcases fin with ⟨e1, e2, e3, e4⟩ | ⟨f, F2, nd, q1, q2, q3, p⟩
  · subst e1 e2 e3
    have eb : frm σ F1 = b := by
      have z := tp'.rf
      simp only [rfs, List.nil_append, List.cons_append, List.cons.injEq] at z
      exact z.1
    rcases bn' with ⟨b1, b2, b3, b4⟩ | ⟨n', th, l, l', cx, g, t0, ub, ks, us, b1, b2, b3, b4, b5, b6, b7, b8, b9, b10, b11, b12, b13, b14⟩
    · obtain ⟨σ', z1, z2⟩ := got_end (n := n) (x1 := x1) hX c' rn' tp' fs' bd.1 vr' gv b3 e4 b1 b4 hW' hΦ'
      refine gg z1 z2 ?_
      have y := (r_mark (n := n) (x1 := x1) (σ := σ) (F := F1) f441 (by omega) (by rw [eb]; exact b1)).1
      have q : σ' = _ := congrArg Prod.snd (z1.symm.trans y)
      rw [q]
      simp [si_1, si_2, sl_1, sl_2, sl_3, ai_1, ai_2, ai_3, ai_4, al_1, al_2, al_3, al_4, cp_1, cp_2, cp_3, cp_4]
    · obtain ⟨σ', z1, z2⟩ := got_han (n := n) (x1 := x1) hX c' rn' tp' fs' bd.1 vr' e4 b1 b2 b3 b4.1 b4.2 b5 b6 b7 b8 b9 b10 b11 b12 b14 hW' hΦ' (by omega)
      exact gg z1 z2 (come47 (n := n) (x1 := x1) hX c.ar (F := F1) f441 (by omega) (by omega) (by rw [eb]; exact b1) b2.1.1 (Or.inr (Or.inr (Or.inl b3))) z1)
  subst q1
  obtain ⟨Fz, ez, ef, erf⟩ := rf_top tp' hmk (node_ne q2)
  have ez' : F1 = Fz := by omega
  subst ez'
  clear ez
  have bkk : Bk X G S μ w' (FsO ta v) a r' s' h' (f :: F2) b t u1 := ⟨d' + 1, u0, e, ⟨bd, Or.inr (Or.inr (Or.inr ⟨f, F2, nd, rfl, q2, q3, p⟩))⟩, bn'⟩
  have c47 : ∀ {σ' : mSt}, (X.A 5 nd).toInt = 4 ∨ (X.A 5 nd).toInt = 6 ∨ (X.A 5 nd).toInt = 8 ∨ (X.A 5 nd).toInt = 9 ∨ ((X.A 5 nd).toInt = 10 ∧ f.stage = 0) → F_Mo_comes n σ x1 = (1, σ') → σ'.1 47 = σ.1 47 := fun {σ'} kd z => come47 (n := n) (x1 := x1) hX c.ar (F := F1) f441 (by clear p; omega) (by clear p; omega) (by rw [ef]; exact q2) q3.1.1 (by rw [ef]; exact kd) z
  have n12 : 12 ≤ n := by clear p; omega
  have atk : x1 = 0 → al ≤ tk := fun z => by
    rw [z] at hx
    have : (0 : Int32).toInt = 0 := rfl
    clear p
    omega
  have ltk : x1 ≠ 0 → tk < al := fun z => by
    rcases Nat.lt_or_ge tk al with y | y
    · exact y
    · exact absurd (Int32.toInt_inj.mp (by rw [hx]; show ((al - tk : Nat) : Int) = 0; omega)) z
  have hV' := hV
  rcases p with ⟨kd, g, t0, ub, cx, m, a1, a2, a3, a4, a5, a6, a7, a8, a9, a10⟩ | ⟨kd, g, ub, cx, m, l, a1, a2, a3, a4, a5, a6, a7, a8, a9, a10, a11, a12, a13⟩ | ⟨kd, ks, g, cx, m, a1, a2, a3, a4, a5, a6, a7, a8⟩ | ⟨kd, ks, a1, a2, a3, a4, a5, a6⟩ | ⟨kd, ks, g, f0, a', rr, t2, cx, m, a1, a2, a3, a4, a5, a6, a7, a8, a9⟩ | ⟨kd, ks, f0, a', rr, a1, a2, a3, a4, a5, a6⟩ | ⟨kd, a1, a2, a3, a4⟩
  · obtain ⟨σ', z1, z2⟩ := got_let (n := n) (x1 := x1) hX hmk c' rn' tp' fs' bd vr' q2 q3 kd a1 a2 a3 a4 a5 a6 a7 a8 a9 a10 bn' hW' hΦ' n12
    exact gg z1 z2 (c47 (Or.inl kd) z1)
  · obtain ⟨σ', z1, z2⟩ := got_if (n := n) (x1 := x1) hX hmk c' rn' tp' fs' bd vr' q2 q3 kd a1 a2 a3 a4 a5 a6 a7 a8 a9 a10 a11 a12 a13 bn' hW' hΦ' n12
    exact gg z1 z2 (c47 (Or.inr (Or.inl kd)) z1)
  · subst a2
    have b8 := a8.bd
    obtain ⟨σ', z1, z2⟩ := got_snd (n := n) (x1 := x1) (ub := 0) (d := d' + 1) hX hmk c' rn' tp' fs' bd q2 q3 (Or.inl kd) ks a1 a3 a4 a7 (by omega) (fun h50 => ⟨⟨by omega, by omega, h50⟩, Or.inr (Or.inr (Or.inr ⟨⟨f.node, 1, σ.2.1, f.see⟩, F2, nd, rfl, q2, q3, Or.inr (Or.inr (Or.inr (Or.inl ⟨kd, (show (1 : Int32) ≠ 0 by decide), rfl, by omega, a5, a6, vr', a8⟩)))⟩))⟩) bn' hW' hΦ' n12
    exact gg z1 z2 (c47 (Or.inr (Or.inr (Or.inr (Or.inl kd)))) z1)
  · obtain ⟨σ', z1, z2⟩ := got_two (n := n) (x1 := x1) hmk c' rn' tp' fs' bd vr' q2 q3 kd ks a1 a2 a3 a4 a5 a6 bn' hW' hΦ'
    exact gg z1 z2 (c47 (Or.inr (Or.inr (Or.inr (Or.inl kd)))) z1)
  · have b8 := a9.bd
    obtain ⟨σ', z1, z2⟩ := got_snd (n := n) (x1 := x1) (ub := 0) (d := d' + 1) hX hmk c' rn' tp' fs' bd q2 q3 (Or.inr kd) ks a1 a4 a6 a8 (by omega) (fun h50 => ⟨⟨by omega, by omega, h50⟩, Or.inr (Or.inr (Or.inr ⟨⟨f.node, 1, σ.2.1, f.see⟩, F2, nd, rfl, q2, q3, Or.inr (Or.inr (Or.inr (Or.inr (Or.inr (Or.inl ⟨kd, (show (1 : Int32) ≠ 0 by decide), f0, a', rr, vr'.sub hX.fo a2, a3, Sbt.of a5, by omega, a7, a9⟩)))))⟩))⟩) bn' hW' hΦ' n12
    exact gg z1 z2 (c47 (Or.inr (Or.inr (Or.inr (Or.inr ⟨kd, ks⟩)))) z1)
  · by_cases x0 : x1 = 0
    · obtain ⟨z1, z2⟩ := got_wait (n := n) hmk c' rn' tp' fs' vr' gv q2 q3 (Or.inl ⟨kd, ks, a5⟩) bkk hW' h1 (atk x0)
      exact Or.inl ⟨by rw [x0]; exact z1, z2.pre st hk⟩
    · rcases (show f.val.toInt < 0 ∨ 0 ≤ f.val.toInt by omega) with hv | hv
      · have hct : ctd X.A (frm σ F1).node = 0 := by rw [ef, (ctd_of (X := X) q2).1, if_neg (by omega)]
        have enk : S0.nk = S.nk := by
          have y1 := run.hp.co
          have y2 := c.nk
          omega
        have f3 := hX.fo.ge _ _ _ a2
        have ki : (-1 - f.val.toInt).toNat < S0.nk := by
          rcases a1 with ⟨y0, -⟩ | ⟨-, y1, -⟩ | ⟨-, y1, y2, -⟩
          · omega
          · omega
          · omega
        obtain ⟨fk, mq, y1, y2, y3, y4⟩ := run_kF hX run hct ki
        refine gc (ltk x0) (got_res (n := n) (x1 := x1) hX hmk c' rn' tp' fs' bd vr' q2 q3 kd ks a1 a2 a3 a4 a5 a6 bn' hW' hΦ' hn hx x0 hv y1 y2 y3 y4 (fun y46 => ?_))
        obtain ⟨-, o⟩ := comes_ok hX run gv hV (x1 := x1) (n := n) hn
        rcases o with ⟨-, o2⟩ | ⟨-, o2⟩ | ⟨-, -, -, -, o5⟩
        · exact absurd o2 x0
        · obtain ⟨M9, ⟨_, _, _, F9, _, _, _, _, _, r9, _⟩, _⟩ := o2.2.2 y46
          have y5 := r9.F hX
          have y6 := r9.f44
          omega
        · obtain ⟨M9, _, _, _, F9, _, _, _, _, _, r9, _⟩ := o5 y46
          have y5 := r9.F hX
          have y6 := r9.f44
          omega
      · exact gc (ltk x0) (got_cal (n := n) (x1 := x1) hX hmk c' rn' tp' fs' bd vr' q2 q3 kd ks a1 a2 a3 a4 a5 a6 bn' hW' hΦ' hn hx x0 hv)
  · by_cases x0 : x1 = 0
    · obtain ⟨z1, z2⟩ := got_wait (n := n) hmk c' rn' tp' fs' vr' gv q2 q3 (Or.inr ⟨kd, a1⟩) bkk hW' h1 (atk x0)
      exact Or.inl ⟨by rw [x0]; exact z1, z2.pre st hk⟩
    · exact gc (ltk x0) (got_per (n := n) (x1 := x1) hX hmk c' rn' tp' fs' bd vr' q2 q3 kd a1 a2 a3 a4 bn' hW' hΦ' hn hx x0 run)
/-- the reference has no frame left -/
theorem step_done (hX : X.Ok) (hmk : mk.node = -1) (c : (SimC cs lim dE A r1 r2 NF X G k4) S μ fa ta nf nt u v own Lf Wk M w σ) (rn : Rn A NF w σ al tk) (tp : Tp X G S μ w (FsO ta v) A own σ mk ut 0 a L Fs b rest u1 W1) (fs : FSt w a s (h + 1) r) (vr : VR X.P S μ t (s h) σ.2.1) (bk : Bk X G S μ w (FsO ta v) a r s h Fs b t u1) (hW : W + r = W1 + 1701) (hΦ : Φ = W + sumW Wk S.nk + (1000 - (σ.1 48).toInt.toNat) * 1701 + (al - tk) * 1701) : (EnA cs lim dE A r1 r2 NF G k4 ut) M (mo_si σ 46 2) tk Φ := by
  obtain ⟨d, u0, e, pd, bn⟩ := bk
  have ha := c.fsa tp.ow1
  obtain ⟨k, M', w', s', h', r', d', st, c', rn', top', fs', es, o, hr, bd, fin⟩ := quiet d c rn tp.top tp.ow1 fs pd
  have tp' := tp.oth (w' := w') (σ' := σ) (Fs' := Fs) (F' := 0) c o tp.f44 (by omega) rfl tp.rf
  have bn' := bn.mono (S' := S) (μ' := μ) Sto.le.rfl' MpLe.rfl' (o.2.2 a 3) (c.tvo ha o)
  have vr' : VR X.P S μ t (s' h') σ.2.1 := by rw [es]; exact vr
  have hk : Φ - k + k ≤ Φ ∧ 1 ≤ Φ - k := by clear fin; omega
  rcases fin with ⟨e1, e2, e3, e4⟩ | ⟨f, F2, nd, q1, q2, q3, p⟩
  · subst e1 e2 e3
    exact (got_done hX hmk c' rn' tp' fs' bd.1 vr' rfl e4 bn' hk.2).pre st hk.1
  · subst q1
    obtain ⟨Fz, ez, -⟩ := rf_top tp' hmk (node_ne q2)
    clear p
    omega
/-- the reference works a node -/
theorem step_now {S0 : Sto} {K0 Q0 C0 Z0 T0 U0 N0 : Nat} {D0 : Int} (hX : X.Ok) (c : (SimC cs lim dE A r1 r2 NF X G k4) S μ fa ta nf nt u v own Lf Wk M w σ) (rn : Rn A NF w σ al tk) (tp : Tp X G S μ w (FsO ta v) A own σ mk ut F a L Fs b rest u1 W1) (tn : TNow X G S μ w (FsO ta v) σ a s h r Fs b t u1) (hW : W + r = W1 + 1701) (hΦ : Φ = W + sumW Wk S.nk + (1000 - (σ.1 48).toInt.toNat) * 1701 + (al - tk) * 1701) (hn : 12 ≤ n) (run : RunJ X S0 σ K0 Q0 F C0 Z0 T0 U0 D0) (nw : Now X S0 σ T0 D0 N0) : ((F_Mo_workNode n σ).1 46 = 1 ∧ (GoA cs lim dE A r1 r2 NF X G k4 mk ut) M (F_Mo_workNode n σ) al tk Φ) ∨ ((F_Mo_workNode n σ).1 46 ≠ 1 ∧ (EnA cs lim dE A r1 r2 NF G k4 ut) M (F_Mo_workNode n σ) tk Φ) := by
  obtain ⟨g51, nd, r', cx, g, f45, gd, dp, h10, fs, cd, ty, sr, bk⟩ := tn
  have b1 := run.seg.bound hX
  have c400 := run.c400
  have dp0 := nw.dp
  have hnd : N0 = nd := by
    have y := nw.f45
    omega
  have dp1 := hX.tab.dp nd gd.1.1
  rw [hnd] at dp0
  have hb : F + 1 ≤ 16440 := by omega
  have kd := hX.kd nd gd.1.1
  rcases (show (X.A 5 nd).toInt ≤ 3 ∨ ((X.A 5 nd).toInt = 4 ∨ (X.A 5 nd).toInt = 6 ∨ (X.A 5 nd).toInt = 9 ∨ (X.A 5 nd).toInt = 10 ∨ (X.A 5 nd).toInt = 11) ∨ (X.A 5 nd).toInt = 7 ∨ (X.A 5 nd).toInt = 5 ∨ (X.A 5 nd).toInt = 8 by omega) with k | k | k | k | k
  · have z := now_atom (n := n) hX c rn tp f45 gd k fs cd ty sr bk hW hΦ
    exact Or.inl ⟨z.en, z⟩
  · have z := now_waits (n := n) hX c rn tp f45 gd k dp fs cd ty sr bk hW hΦ hn hb
    exact Or.inl ⟨z.en, z⟩
  · exact now_fn hX c rn tp f45 gd k fs cd ty sr bk hW hΦ hn
  · exact now_rec hX c rn tp f45 gd k dp fs cd ty sr bk hW hΦ hn
  · exact now_han hX c rn tp f45 gd k fs cd ty sr bk hW hΦ hn (fun _ => hb)
end
end
