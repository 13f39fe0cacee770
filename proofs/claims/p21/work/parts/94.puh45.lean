-- pure rows: IZ
section
/-! pure rows: the machines, begun, run, cleared -/
/-- nothing told -/
def Cx0 : Cx := ⟨fun _ _ => 0, 0, 0, ⟨fun _ _ _ => False, fun _ _ => False⟩, fun _ => 0, fun _ => 0⟩
theorem Cx0.ok : Cx0.Ok := by
  refine ⟨⟨fun f a r a' r' h => False.elim h, fun f a r h => False.elim h, fun t u h => False.elim h⟩, Nat.zero_le _, Nat.zero_le _, ⟨fun n hn => absurd hn (Nat.not_lt_zero _), fun n hn => absurd hn (Nat.not_lt_zero _), fun n hn => absurd hn (Nat.not_lt_zero _), fun n hn => absurd hn (Nat.not_lt_zero _)⟩, fun n hn => absurd hn (Nat.not_lt_zero _), fun n hn => absurd hn (Nat.not_lt_zero _), fun n hn => absurd hn (Nat.not_lt_zero _), fun n hn => absurd hn (Nat.not_lt_zero _), fun n hn => absurd hn (Nat.not_lt_zero _), fun n hn => absurd hn (Nat.not_lt_zero _), fun n hn => absurd hn (Nat.not_lt_zero _), fun n hn => absurd hn (Nat.not_lt_zero _)⟩
/-- all is taken back -/
def Zs (A : Ad) (w : Vw) : Prop := w.2.1 A.ma 4 = 0 ∧ w.2.1 A.ma 5 = 0 ∧ w.2.1 A.ma 6 = 0 ∧ w.2.1 A.ma 7 = 0 ∧ w.2.1 A.ma 8 = 0 ∧ w.2.1 A.ma 9 = -1
section
variable {cs : Nat → ClassId} {lim dE : Nat × Nat} {A : Ad} {M M' : gMem} {σ σ' : mSt} {q q' n : Nat} {r1 r2 NF : Nat} {G : Nat → Int32} {k4 : Nat} {fa ta : Nat → Nat} {nf nt kf kt : Nat} {w : Vw}
theorem VS.mUnload (h : VS cs lim dE A r1 r2 NF G k4 fa ta nf nt M w) : ∃ w', VS cs lim dE A r1 r2 NF G k4 fa ta nf nt (F_Ma_unload cs M A.ma) w' ∧ Zs A w' := by
  have h1 := h.putN (ci := 8) (k := 2) (x := 0) h.oM (by decide) (by decide) (by decide) (by decide)
  obtain ⟨w', v, ⟨a4, a5, a6, a7, a8, a9, -⟩, -⟩ := h1.mReset
  exact ⟨w', v, a4, a5, a6, a7, a8, a9⟩
theorem VS.mLoad (h : VS cs lim dE A r1 r2 NF G k4 fa ta nf nt M w) (x : Int32) : ∃ w', VS cs lim dE A r1 r2 NF G k4 fa ta nf nt (F_Ma_load cs M A.ma x) w' ∧ Zs A w' ∧ w'.2.1 A.ma 3 = x := by
  have h1 := h.putN (ci := 8) (k := 2) (x := 1) h.oM (by decide) (by decide) (by decide) (by decide)
  have h2 := h1.putN (ci := 8) (k := 3) (x := x) h1.oM (by decide) (by decide) (by decide) (by decide)
  obtain ⟨w', v, ⟨a4, a5, a6, a7, a8, a9, -⟩, mi, -⟩ := h2.mReset
  refine ⟨w', v, ⟨a4, a5, a6, a7, a8, a9⟩, ?_⟩
  rw [mi 3 (by decide), vpi_i, if_pos ⟨rfl, rfl⟩]
theorem VT.mI (h : VT cs dE A G k4 fa ta nf nt kf kt M w) (k : Nat) : cI M A.ma k = w.2.1 A.ma k := (h.ag.2 A.ma k (Or.inr (Or.inr (Or.inl rfl)))).1
theorem VT.zs {X : Cx} {mk : Fr} {ut : Nat} (h : VT cs dE A G k4 fa ta nf nt kf kt M w) (z : Zs A w) (h46 : σ.1 46 = 0) : McA cs lim dE A r1 r2 NF X G k4 mk ut M σ := by
  obtain ⟨z4, z5, z6, z7, z8, z9⟩ := z
  exact Or.inl ⟨h46, by rw [h.mI]; exact z4, by rw [h.mI]; exact z5, by rw [h.mI]; exact z6, by rw [h.mI]; exact z7, by rw [h.mI]; exact z8, by rw [h.mI]; exact z9⟩
theorem JM.idle_of (j : JX cs lim dE A q σ M) (h : VT cs dE A G k4 fa ta nf nt kf kt M w) (z : Zs A w) (h36 : σ.1 36 = -1) (h46 : σ.1 46 = 0) : JM cs lim dE A M σ := by
  obtain ⟨τ, N, C, R, j⟩ := j
  have a1 := j.moi.nok.n
  have a2 := j.moi.nok.c
  refine ⟨G, k4, Cx0, 0, 0, 0, ⟨fa, ta, nf, nt, kf, kt, w, h⟩, h.zs z h46, ⟨Cx0.ok, ?_, ?_⟩, Or.inl ⟨h36, h46⟩⟩
  · show ((0 : Nat) : Int) ≤ _
    omega
  · show ((0 : Nat) : Int) ≤ _
    omega
theorem start_y (J : JY cs lim dE A (q + 1) σ M) : S_N_start cs lim dE M A.x ∧ S_Mo_start σ ∧ (((F_N_start cs dE M A.x).1 = 0 ∧ (F_Mo_start σ).1 4 = 0) ∨ ((F_N_start cs dE M A.x).1 = 2 ∧ (F_Mo_start σ).1 4 = 1)) ∧ JY cs lim dE A q (F_Mo_start σ) (F_N_start cs dE M A.x).2 := by
  obtain ⟨J, m⟩ := J
  obtain ⟨s1, s2, b, j⟩ := start_j J
  refine ⟨s1, s2, b, j, ?_⟩
  obtain ⟨τ, N, C, R, J⟩ := J
  have L := J.lay
  by_cases h36 : σ.1 36 = -1
  · have c0 : cI M A.ma 2 = 0 := J.ld.mpr h36
    have eS : F_Mo_start σ = mo_si σ 4 1 := by
      simp (decide := true) only [F_Mo_start, if_pos h36, F_Mo_start_j14, si_1, if_true, if_false]
    have eC : F_N_start cs dE M A.x = (2, gsk M) := by
      unfold F_N_start
      rw [L.x_ma.2]
      simp only [Option.getD_some, if_pos c0]
    rw [eS, eC] at j ⊢
    have ge := gsk_ext L.mok
    exact m.move j L.ma_0.1 ge (by decide) (by decide) (fun g k c => c.ext ge (by decide) (by decide)) J.moi.nok Tg.si4
  · have c0 : ¬ cI M A.ma 2 = 0 := fun z => h36 (J.ld.mp z)
    have e := x_N_start cs lim dE M A.x L.mok s1
    have eS : F_Mo_start σ = F_Mo_begin (mo_si σ 4 0) := by
      simp (decide := true) only [F_Mo_start, if_neg h36, F_Mo_start_j14, si_1, if_true, mbind_eq]
    have eC : F_N_start cs dE M A.x = (0, F_Ma_begin cs dE M A.ma) := by
      unfold F_N_start
      rw [L.x_ma.2]
      simp only [Option.getD_some, if_neg c0, mbind_eq]
    rw [eC] at e
    rw [eS, eC]
    clear eS eC s1 s2 b j
    obtain ⟨G, k4, X, ut, r1, r2, ⟨fa, ta, nf, nt, kf, kt, w, vt⟩, mc, ⟨xo, b1, b2⟩, ld⟩ := m
    rcases ld with ⟨l1, -⟩ | l
    · exact absurd l1 h36
    obtain ⟨t1, t2, g4', k4', K, Fs, Ts, hs, -⟩ := J.kc.hs
    obtain ⟨p, l', p1, p2, p3, p4, p5, p6⟩ := l.pr
    have ar : Arr X (mo_si σ 4 0) := l.ar
    have f36 : ((mo_si σ 4 0).1 36).toInt = p := by rw [si_1, if_neg (by omega)]; exact p1
    have rs := begin_rs (mk := mk0) (vt.full hs) (by decide) ar f36 p2 p3 p4 p5 p6 rfl
    obtain ⟨Mx, ok⟩ := begin_run ar f36 p2.1 p6
    have f : ∀ k, k < 44 → k ≠ 4 → (F_Mo_begin (mo_si σ 4 0)).1 k = σ.1 k := fun k hk h4 => by rw [begin_f hk, si_1, if_neg h4]
    have mb : McB cs lim dE A t1 t2 103401 X G k4 mk0 ut (F_Ma_begin cs dE M A.ma) (F_Mo_begin (mo_si σ 4 0)) := Or.inl ⟨rs, Mx, ok⟩
    have e3 : cI (F_Ma_begin cs dE M A.ma) A.ma 3 = cI M A.ma 3 := e.xcI L.ma_0.1 (by decide)
    refine ⟨G, k4, X, ut, t1, t2, mb.vt, Or.inr mb, ⟨xo, by rw [f 0 (by omega) (by omega)]; exact b1, by rw [f 1 (by omega) (by omega)]; exact b2⟩, Or.inr ⟨l.ar, ⟨p, l', by rw [f 36 (by omega) (by omega)]; exact p1, p2, p3, p4, p5, p6⟩, by rw [f 37 (by omega) (by omega)]; exact l.f37, ?_⟩⟩
    rw [f 37 (by omega) (by omega)]
    show cI (F_Ma_begin cs dE M A.ma) A.ma 3 = 0 ↔ _
    rw [e3]
    exact l.m3
def SameR (wc : Nat × Int32 × gMem) (wm : Int32 × mSt) : Prop := (wc.1 = 0 ∧ wm.2.1 4 = 0 ∧ wc.2.1 = wm.1) ∨ (wc.1 = 2 ∧ wm.2.1 4 = 1) ∨ (wc.1 = 3 ∧ wm.2.1 4 = 2)
theorem run_y (J : JY cs lim dE A (q + 1) σ M) (hq : q + 1 ≤ 512) {n2 : Nat} (hn : 4100000 ≤ n) (hn2 : 11000000000 ≤ n2) (x : Int32) : S_N_run cs lim dE n M A.x x ∧ S_Mo_run n2 σ x ∧ SameR (F_N_run cs dE n M A.x x) (F_Mo_run n2 σ x) ∧ JY cs lim dE A q (F_Mo_run n2 σ x).2 (F_N_run cs dE n M A.x x).2.2 := by
  obtain ⟨J, m⟩ := J
  obtain ⟨s1, s2, -, j⟩ := run_j J hq hn hn2 x
  refine ⟨s1, s2, ?_⟩
  obtain ⟨τ, N, C, R, J⟩ := J
  have L := J.lay
  have m0 := m
  obtain ⟨-, ⟨z, fr⟩, -⟩ := run_ok J.moi.mach hn2 (x := x)
  have e := x_N_run cs lim dE n M A.x x L.mok s1
  obtain ⟨G, k4, X, ut, r1, r2, -, mc, ⟨xo, b1, b2⟩, ld⟩ := m
  have hfl : σ.1 46 = 1 → (cI M A.ma 6).toInt + 1201 ≤ ((103401 : Nat) : Int) := fun h1 => by
    have s4 := mc.s4
    have mb := J.kc.mb.resolve_left (fun z => by rw [z, h1] at s4; exact absurd s4 (by decide))
    have mf := mb.fl.2
    clear mb s4 mc ld fr e
    omega
  have ge := gsk_ext L.mok
  rcases mc.run xo rfl hfl L.x_ma.2 hn hn2 x with ⟨a1, a2, a3, mb, h0⟩ | ⟨a1, a2, a3⟩ | ⟨a1, a2, a3⟩
  · refine ⟨Or.inl ⟨a1, a2, a3⟩, j, ?_⟩
    have f : ∀ k, k < 44 → k ≠ 4 → (F_Mo_run n2 σ x).2.1 k = σ.1 k := fun k hk h4 => by rw [fr.f k hk, si_1, if_neg h4]
    refine ⟨G, k4, X, ut, r1, r2, mb.vt, Or.inr mb, ⟨xo, by rw [f 0 (by omega) (by omega)]; exact b1, by rw [f 1 (by omega) (by omega)]; exact b2⟩, ?_⟩
    rcases ld with ⟨-, l2⟩ | l
    · exact absurd l2 h0
    obtain ⟨p, l', p1, p2, p3, p4, p5, p6⟩ := l.pr
    refine Or.inr ⟨fun k h1 h2 i hi => ?_, ⟨p, l', by rw [f 36 (by omega) (by omega)]; exact p1, p2, p3, p4, p5, p6⟩, by rw [f 37 (by omega) (by omega)]; exact l.f37, ?_⟩
    · rw [fr.a k (by omega)]
      exact l.ar k h1 h2 i hi
    · rw [e.xcI L.ma_0.1 (by decide), f 37 (by omega) (by omega)]
      exact l.m3
  · rw [a2, a3] at j
    refine ⟨Or.inr (Or.inl ⟨a1, by rw [a2]; simp [si_1, si_2, sl_1, sl_2, sl_3, ai_1, ai_2, ai_3, ai_4, al_1, al_2, al_3, al_4, cp_1, cp_2, cp_3, cp_4]⟩), ?_⟩
    rw [a2, a3]
    exact ⟨j, m0.move j L.ma_0.1 ge (by decide) (by decide) (fun g k c => c.ext ge (by decide) (by decide)) J.moi.nok Tg.si4⟩
  · rw [a2, a3] at j
    refine ⟨Or.inr (Or.inr ⟨a1, by rw [a2]; simp [si_1, si_2, sl_1, sl_2, sl_3, ai_1, ai_2, ai_3, ai_4, al_1, al_2, al_3, al_4, cp_1, cp_2, cp_3, cp_4]⟩), ?_⟩
    rw [a2, a3]
    exact ⟨j, m0.move j L.ma_0.1 ge (by decide) (by decide) (fun g k c => c.ext ge (by decide) (by decide)) J.moi.nok Tg.si4⟩
/-- what clear does before the machine is taken back -/
theorem clear_pre {τ : TT} {N C R : Nat} (J : JC cs lim dE A q σ τ N C R M) (hn : 20 ≤ n) : ∃ M5, Ext [(1, 4), (3, 4), (3, 5), (3, 6), (6, 5), (6, 6), (6, 7)] [(0, 2), (0, 3)] false M M5 ∧ F_N_clear cs n M A.x = F_Ma_unload cs M5 A.ma := by
  have L := J.lay
  have L0 := L
  unfold F_N_clear
  simp only [mbind_eq]
  have q0 : (cQ M A.x 0).getD 0 = A.ty := by rw [L.x_ty.2]; rfl
  rw [q0]
  have sd : S_Ty_dropBack cs lim M A.ty 3 := ⟨L.ty_0.1, trivial⟩
  have e1 := x_Ty_dropBack cs lim M A.ty 3 L.mok sd
  have L1 := L.ext e1 (by decide)
  have E1 : Ext [(1, 4), (3, 4), (3, 5), (3, 6), (6, 5), (6, 6), (6, 7)] [(0, 2), (0, 3)] false M (F_Ty_dropBack cs M A.ty 3) := e1.mono (by decide) (by decide) (by decide)
  generalize F_Ty_dropBack cs M A.ty 3 = M1 at L1 E1 ⊢
  have q1 : (cQ M1 A.x 1).getD 0 = A.ns := by rw [L1.x_ns.2]; rfl
  rw [q1]
  have o3 := L1.ns_0.1
  have p1 : cOk 3 (cP 3 M1 A.ns 4 (.int 0)) A.ns := cOk_putI (by decide) o3 o3
  have p2 : cOk 3 (cP 3 (cP 3 M1 A.ns 4 (.int 0)) A.ns 5 (.int 0)) A.ns := cOk_putI (by decide) p1 p1
  have sn : S_Ns_dropAll cs lim M1 A.ns := ⟨o3, p1, p2, trivial⟩
  have e2 := x_Ns_dropAll cs lim M1 A.ns L1.mok sn
  have L2 := L1.ext e2 (by decide)
  have E2 := Ext.then L0.mok E1 e2 (by decide) (by decide) (by decide)
  generalize F_Ns_dropAll cs M1 A.ns = M2 at L2 E2 ⊢
  have nvg : ¬ NotV [(0, 2)] M2 A.gv := fun z => z A.x 0 2 (by decide) (by decide) L2.x_gv.1 L2.x_gv.2
  obtain ⟨s3, e3, v3, o3'⟩ := ar_fill0 (cs := cs) (lim := lim) (n := n) (y := 0) (V := [(0, 2)]) L2.x_gv.2 (by decide) (by omega) L2.mok L2.gv.1 L2.gv.2 nvg
  have L3 := L2.ext e3 (by decide)
  have E3 := Ext.then L0.mok E2 e3 (by decide) (by decide) (by decide)
  generalize F_Ar_fill cs n M2 (cQ M2 A.x 2) 0 = M3 at L3 E3 ⊢
  have nvr : ¬ NotV [(0, 3)] M3 A.rs := fun z => z A.x 0 3 (by decide) (by decide) L3.x_rs.1 L3.x_rs.2
  obtain ⟨s4, e4, v4, o4⟩ := ar_fill0 (cs := cs) (lim := lim) (n := n) (y := 0) (V := [(0, 3)]) L3.x_rs.2 (by decide) (by omega) L3.mok L3.rs.1 L3.rs.2 nvr
  have L4 := L3.ext e4 (by decide)
  have E4 := Ext.then L0.mok E3 e4 (by decide) (by decide) (by decide)
  generalize F_Ar_fill cs n M3 (cQ M3 A.x 3) 0 = M4 at L4 E4 ⊢
  have q4 : (cQ M4 A.x 4).getD 0 = A.ck := by rw [L4.x_ck.2]; rfl
  rw [q4]
  have o6 := L4.ck_0.1
  have p3 : cOk 6 (cP 6 M4 A.ck 5 (.int 0)) A.ck := cOk_putI (by decide) o6 o6
  have p4 : cOk 6 (cP 6 (cP 6 M4 A.ck 5 (.int 0)) A.ck 6 (.int (-1))) A.ck := cOk_putI (by decide) p3 p3
  have sf : S_Ck_forget cs lim M4 A.ck := ⟨o6, p3, p4, trivial⟩
  have e5 := x_Ck_forget cs lim M4 A.ck L4.mok sf
  have L5 := L4.ext e5 (by decide)
  have E5 := Ext.then L0.mok E4 e5 (by decide) (by decide) (by decide)
  generalize F_Ck_forget cs M4 A.ck = M5 at L5 E5 ⊢
  have q6 : (cQ M5 A.x 6).getD 0 = A.ma := by rw [L5.x_ma.2]; rfl
  rw [q6]
  exact ⟨M5, E5, rfl⟩
theorem clear_y (J : JY cs lim dE A (q + 1) σ M) (hn : 20 ≤ n) {n2 : Nat} (hn2 : 9 ≤ n2) : S_N_clear cs lim n M A.x ∧ S_Mo_clear n2 σ ∧ JY cs lim dE A q (F_Mo_clear n2 σ) (F_N_clear cs n M A.x) ∧ Oth M (F_N_clear cs n M A.x) := by
  obtain ⟨J, m⟩ := J
  obtain ⟨s1, s2, j, o⟩ := clear_j J hn hn2
  refine ⟨s1, s2, ⟨j, ?_⟩, o⟩
  obtain ⟨τ, N, C, R, J⟩ := J
  obtain ⟨-, -, -, -, z36, z46⟩ := clear_ok (σ := σ) J.moi.tok.bits hn2
  obtain ⟨M5, e5, eq⟩ := clear_pre J hn
  rw [eq] at j ⊢
  obtain ⟨G, k4, X, ut, r1, r2, ⟨fa, ta, nf, nt, kf, kt, w, vt⟩, -⟩ := m
  obtain ⟨t1, t2, g4', k4', K, Fs, Ts, hs, -⟩ := J.kc.hs
  have sz5 := e5.sz.2.2 rfl
  have h5 := hs.step (r1' := t1) (r2' := t2) e5 (by decide) (by decide) (hs.c4.ext e5 (by decide) (by decide)) (by rw [sz5]; omega) (by rw [sz5]; omega)
  have v5 := (vt.move e5 (by decide) (by decide) (vt.h.c4.ext e5 (by decide) (by decide))).full h5
  obtain ⟨w', v6, zs⟩ := v5.mUnload
  obtain ⟨kf', kt', vt6⟩ := v6.lite
  exact JM.idle_of j vt6 zs z36 z46
theorem JY.still (J : JY cs lim dE A q σ M) (h : Stl M M') (s : M'.2 = M.2) : JY cs lim dE A q σ M' := by
  obtain ⟨J, m⟩ := J
  have j := J.still h s
  refine ⟨j, ?_⟩
  obtain ⟨τ, N, C, R, J⟩ := J
  have e := h.ext
  exact m.move j J.lay.ma_0.1 e (by decide) (by decide) (fun g k c => c.ext e (by decide) (by decide)) J.moi.nok ⟨⟨fun _ _ => rfl, rfl, fun _ _ _ _ _ => rfl, fun _ _ _ _ _ => rfl, fun _ _ => rfl, rfl⟩, Int.le_refl _, Int.le_refl _⟩
theorem JY.mok (J : JY cs lim dE A q σ M) : MOk M := J.1.mok
theorem JY.x0 (J : JY cs lim dE A q σ M) : cOk 0 M A.x := J.1.x0
theorem JY.less (J : JY cs lim dE A (q + 1) σ M) : JY cs lim dE A q σ M := ⟨J.1.less, J.2⟩
theorem vt_z {b : Nat} (hd : dE.1 < b) (hl1 : b + 26 + 300000 + 208862 ≤ lim.1) (hl2 : 421 + 1264000 + 6027955 ≤ lim.2) : ∃ w, VT cs dE (Az b) (fun _ => 0) 16 (fun _ => 0) (fun _ => 0) 0 0 0 0 (MZ cs dE b) w ∧ Zs (Az b) w := by
  obtain ⟨nf, nt, kf, kt, h, -⟩ := hs_z (cs := cs) (lim := lim) (dE := dE) (b := b) hd hl1 hl2
  have lf : ∀ P, LiJ cs dE (MZ cs dE b) (Az b).fl P 0 0 := fun P => ⟨lm_ok (b := b) (j := 24) rfl, ((congrArg Int32.toInt (lm_cI (b := b) (s := 421) (c := kZ cs dE b) (j := 24) (k := 1))).trans rfl), Or.inl ⟨rfl, rfl, (lm_cQ (b := b) (j := 24)).trans rfl⟩⟩
  have lt : ∀ P, LiJ cs dE (MZ cs dE b) (Az b).tl P 0 0 := fun P => ⟨lm_ok (b := b) (j := 25) rfl, ((congrArg Int32.toInt (lm_cI (b := b) (s := 421) (c := kZ cs dE b) (j := 25) (k := 1))).trans rfl), Or.inl ⟨rfl, rfl, (lm_cQ (b := b) (j := 25)).trans rfl⟩⟩
  obtain ⟨e1, e2⟩ := (lf (fun _ _ => True)).same h.fl h.de.2
  obtain ⟨e3, e4⟩ := (lt (fun _ _ => True)).same h.tl h.de.2
  subst e1 e2 e3 e4
  have eF : FsO (fun _ => 0) 0 = (fun _ : Nat => False) := funext fun z => propext ⟨fun ⟨i, hi, _⟩ => absurd hi (Nat.not_lt_zero _), False.elim⟩
  have no : ∀ a, ¬ FsO (fun _ => 0) 0 a := fun a ⟨i, hi, _⟩ => absurd hi (Nat.not_lt_zero _)
  have h' : HTL cs dE (Az b) (FsO (fun _ => 0) 0) (FsO (fun _ => 0) 0) 0 0 0 0 (fun _ => 0) 16 (MZ cs dE b) := by
    rw [eF]
    exact h
  refine ⟨(fun _ _ => 0, cI (MZ cs dE b), cQ (MZ cs dE b)), ⟨h', lf _, lt _, fun a ha => absurd ha (no a), fun a ha => absurd ha (no a), ⟨fun a ha => ?_, fun a k _ => ⟨rfl, rfl⟩⟩, fun i j hi => absurd hi (Nat.not_lt_zero _), fun i j hi => absurd hi (Nat.not_lt_zero _)⟩, (lm_cI (b := b) (s := 421) (c := kZ cs dE b) (j := 22) (k := 4)).trans rfl, (lm_cI (b := b) (s := 421) (c := kZ cs dE b) (j := 22) (k := 5)).trans rfl, (lm_cI (b := b) (s := 421) (c := kZ cs dE b) (j := 22) (k := 6)).trans rfl, (lm_cI (b := b) (s := 421) (c := kZ cs dE b) (j := 22) (k := 7)).trans rfl, (lm_cI (b := b) (s := 421) (c := kZ cs dE b) (j := 22) (k := 8)).trans rfl, (lm_cI (b := b) (s := 421) (c := kZ cs dE b) (j := 22) (k := 9)).trans rfl⟩
  rcases ha with g | g
  · exact absurd g (no a)
  · exact absurd g (no a)
theorem JY.start {b : Nat} (hd : dE.1 < b) (hl1 : b + 26 + 300000 + 208862 ≤ lim.1) (hl2 : 421 + 1264000 + 6027955 ≤ lim.2) (h : Stl (MZ cs dE b) M') (s1 : M'.2.1 ≤ b + 1000) (s2 : M'.2.2 ≤ 1060000) (hB : Tbits σ) : JY cs lim dE (Az b) 512 (F_Mo_clear 9 σ) M' := by
  have j := JX.start (cs := cs) (lim := lim) hd hl1 hl2 h s1 s2 hB
  refine ⟨j, ?_⟩
  have e := h.ext
  obtain ⟨-, -, -, -, z36, z46⟩ := clear_ok (σ := σ) hB (n := 9) (by omega)
  obtain ⟨w, vt, zs⟩ := vt_z (cs := cs) (lim := lim) (dE := dE) (b := b) hd hl1 hl2
  exact JM.idle_of j (vt.move e (by decide) (by decide) (vt.h.c4.ext e (by decide) (by decide))) zs z36 z46
end
end
