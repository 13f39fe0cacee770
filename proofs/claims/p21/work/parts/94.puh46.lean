-- pure rows: JA
section
/-! pure rows: a program is checked and loaded, on both sides -/
section
variable {cs : Nat → ClassId} {lim dE : Nat × Nat} {A : Ad} {M M' : gMem} {q : Nat} {σ : mSt} {n n2 : Nat} {τ : TT} {N C R : Nat}
theorem check_m (J : JC cs lim dE A (q + 1) σ τ N C R M) (m : JM cs lim dE A M σ) (hn : 700 ≤ n) (hn2 : 3000 ≤ n2) (x : Int32) (j : JX cs lim dE A q (F_Mo_check n2 σ x).2 (F_N_check cs n M A.x x).2.2) : JM cs lim dE A (F_N_check cs n M A.x x).2.2 (F_Mo_check n2 σ x).2 := by
  have L := J.lay
  have h60 := J.len
  have X := check_x J.tx (by omega) J.moi.nok J.moi.eok hn2 (x := x)
  have R46 := (check_ok J.moi.tok J.moi.t63 J.moi.nok J.moi.eok hn2 (x := x)).2.r
  obtain ⟨-, T', -, mi⟩ := J.moi.check hn2 (x := x)
  have hl := J.kc.room6
  have ge := gsk_ext L.mok
  have mov : ∀ z : Int32, (F_Mo_check n2 σ x).2 = mo_si σ 4 z → (F_N_check cs n M A.x x).2.2 = gsk M → JM cs lim dE A (F_N_check cs n M A.x x).2.2 (F_Mo_check n2 σ x).2 := fun z e1 e2 => by
    rw [e1, e2] at j ⊢
    exact m.move j L.ma_0.1 ge (by decide) (by decide) (fun g k c => c.ext ge (by decide) (by decide)) J.moi.nok Tg.si4
  obtain ⟨s0, v0⟩ := n_node L J.ns hl x
  by_cases hI : Is N x
  rotate_left
  · refine mov 1 (X.no hI) ?_
    unfold F_N_check
    simp (decide := true) only [mbind_eq, v0, if_neg hI, if_false]
  have hI' := hI
  unfold Is at hI'
  have hx : x.toInt = (x.toInt.toNat : Nat) := by omega
  have hm : x.toInt.toNat < N := by omega
  have q1 : (cQ M A.x 1).getD 0 = A.ns := by rw [L.x_ns.2]; rfl
  obtain ⟨s1, a, v1, -, na⟩ := ns_at (lim := lim) L J.ns hx hm
  have n9 : cI M a 9 = σ.2.2.1 12 x.toInt.toNat := na.2 9 (by decide)
  have n10 : cI M a 10 = σ.2.2.1 13 x.toInt.toNat := na.2 10 (by decide)
  have c400 : (400 : Int32).toInt = 400 := rfl
  have c40 : (40 : Int32).toInt = 40 := rfl
  by_cases z1 : 400 < σ.2.2.1 12 x.toInt.toNat
  · refine mov 2 (X.big hI (fun g => ?_)) ?_
    · have := g.2.1
      rw [Int32.lt_iff_toInt_lt, c400] at z1
      omega
    · unfold F_N_check
      simp (decide := true) only [mbind_eq, v0, if_pos hI, if_true, q1, v1, Option.getD_some, n9, if_pos z1]
  by_cases z2 : σ.2.2.1 13 x.toInt.toNat ≤ 40
  rotate_left
  · refine mov 2 (X.big hI (fun g => ?_)) ?_
    · have := g.2.2
      rw [Int32.le_iff_toInt_le, c40] at z2
      omega
    · unfold F_N_check
      simp (decide := true) only [mbind_eq, v0, if_pos hI, if_true, q1, v1, Option.getD_some, n9, n10, if_neg z1, if_neg z2]
  have d1 : Sz σ x.toInt.toNat ≤ 400 := by rw [Int32.lt_iff_toInt_lt, c400] at z1; show (σ.2.2.1 12 x.toInt.toNat).toInt ≤ 400; omega
  have d2 : Dp σ x.toInt.toNat ≤ 40 := by rw [Int32.le_iff_toInt_le, c40] at z2; exact z2
  have g : CkG σ N x := ⟨hI, d1, d2⟩
  have CP : ∀ (t : Nat) (e : Int32) (τ' : TT), found σ τ x.toInt.toNat = some (t, e, τ') → τ'.length ≤ 60 → (F_Mo_check n2 σ x).2.1 37 = (F_Mo_check n2 σ x).1 ∧ ∃ P, FactsOk P ∧ Ty σ.2.2.1 P (tks σ) (gvs σ) (fun _ => -1) x.toInt.toNat t := fun t e τ' h1 h2 => check_p J.tx (by omega) J.moi.nok J.moi.eok hn2 g h1 h2
  have q6 : (cQ M A.x 6).getD 0 = A.ma := by rw [L.x_ma.2]; rfl
  clear mov
  generalize hw : F_N_check cs n M A.x x = w at j ⊢
  unfold F_N_check at hw
  simp (decide := true) only [mbind_eq, v0, if_pos hI, if_true, q1, v1, Option.getD_some, n9, n10, if_neg z1, if_pos z2, q6] at hw
  obtain ⟨G, k0, Xm, ut0, y1, y2, ⟨fa, ta, nf, nt, kf, kt, wv, vt⟩, -⟩ := m
  obtain ⟨r1, r2, g4, k4, K, Fs, Ts, hh, t, b1, b2, b3⟩ := J.kc.hs
  obtain ⟨su, h1, zz1, v2, v4⟩ := ma_unload hh
  have e1 := x_Ma_unload cs lim M A.ma L.mok su
  obtain ⟨w1, u1, zs1⟩ := (vt.full hh).mUnload
  obtain ⟨kf1, kt1, vt1⟩ := u1.lite
  have L1 := h1.lay
  have t1 := t.ext L e1 (by decide) (by decide) (by decide)
  have ns1 := J.ns.ext L e1 (by decide) (by decide) (by decide)
  have ef1 := J.ef.ext L e1 (by decide)
  have co1 : ∃ l : Nat, (cI (F_Ma_unload cs M A.ma) A.co 2).toInt = l := by rw [e1.xcI L.co_0.1 (by decide)]; exact J.kc.co
  clear u1 e1
  generalize F_Ma_unload cs M A.ma = M1 at h1 zz1 v2 v4 L1 t1 ns1 ef1 co1 vt1 hw
  have ro1 := h1.room
  have hKb := t1.Kb
  have ck1 : Cks cs lim A σ N C (C - R) (3 + τ.length) g4 k4 M1 τ K := ⟨L1, ns1, ef1, t1, ⟨by omega, by omega⟩, J.rows, h1.c4, Nat.le_refl _⟩
  obtain ⟨se, e2, r⟩ := ck_examine (⟨J.moi.nok, J.moi.eok, J.hrow⟩ : Ctx σ N C R (3 + τ.length)) hn ck1 J.len hm hx d2 d1
  have q4 : (cQ M1 A.x 4).getD 0 = A.ck := by rw [L1.x_ck.2]; rfl
  rw [q4] at hw
  have co2 : ∃ l : Nat, (cI (F_Ck_examine cs n M1 A.ck x).2 A.co 2).toInt = l := by rw [e2.xcI L1.co_0.1 (by decide)]; exact co1
  have sz2 := e2.sz
  generalize F_Ck_examine cs n M1 A.ck x = w2 at e2 r co2 sz2 hw
  rcases r with ⟨tt, ee, τ', K', hf, hl60, y, ylt, ck2, p2, -⟩ | ⟨hno, y, K', ck2, p2⟩
  rotate_left
  · rw [if_pos y] at hw
    subst hw
    obtain ⟨m1, -, m3⟩ := X.bad g hno
    have h46 : (F_Mo_check n2 σ x).2.1 46 = 0 := by
      rcases R46 with (r | r) | ⟨r, -⟩
      · rw [r, si_1, if_pos rfl] at m1; exact absurd m1 (by decide)
      · rw [r, si_1, if_pos rfl] at m1; exact absurd m1 (by decide)
      · exact r
    have g2 := gsk_ext ck2.lay.mok
    have vt2 := vt1.move e2 (by decide) (by decide) ck2.c4
    have vt3 := vt2.move g2 (by decide) (by decide) (ck2.c4.ext g2 (by decide) (by decide))
    exact JM.idle_of j vt3 zs1 m3 h46
  have nm1 : ¬ w2.1 = -1 := fun h => by
    rw [h] at y
    have : (-1 : Int32).toInt = -1 := rfl
    omega
  rw [if_neg nm1] at hw
  obtain ⟨m1, m2, m3, m4⟩ := X.ok g tt ee τ' hf hl60
  have h46 : (F_Mo_check n2 σ x).2.1 46 = 0 := by
    rcases R46 with (r | r) | ⟨r, -⟩
    · rw [r, si_1, if_pos rfl] at m2; exact absurd m2 (by decide)
    · rw [r, si_1, if_pos rfl] at m2; exact absurd m2 (by decide)
    · exact r
  obtain ⟨p37, P, hP, hty⟩ := CP tt ee τ' hf hl60
  obtain ⟨p21, p22, p23⟩ := p2
  have L2 := ck2.lay
  have hKb' := ck2.ty.Kb
  have h2 := h1.step (r1' := r1 - (w2.2.2.1 - M1.2.1)) (r2' := r2 - (w2.2.2.2 - M1.2.2)) e2 (by decide) (by decide) ck2.c4 (by omega) (by omega)
  have ro2 := h2.room
  obtain ⟨l2, hl2⟩ := co2
  have wk : Wk cs lim A σ w2.2 N C (C - R) l2 k4 := ⟨L2, ck2.ns, ⟨g4, ck2.c4⟩, hl2, b1, by omega, by omega⟩
  have wg : Wg cs lim A σ w2.2 N C (C - R) l2 k4 g4 := ⟨wk, ck2.c4⟩
  obtain ⟨sc, l3, k5', wk3, we3⟩ := co_compile (fu := n) (⟨J.moi.nok, J.moi.eok, J.hrow⟩ : Ctx σ N C R (3 + τ.length)) (by omega) wk hm hx d2 d1
  obtain ⟨l', k5, g5, wg3, cd, op, hl'⟩ := co_compileG (fu := n) (⟨J.moi.nok, J.moi.eok, J.hrow⟩ : Ctx σ N C R (3 + τ.length)) (by omega) wg hm hx d2 d1
  have q5 : (cQ w2.2 A.x 5).getD 0 = A.co := by rw [L2.x_co.2]; rfl
  rw [q5] at hw
  have vt2 := vt1.move e2 (by decide) (by decide) ck2.c4
  generalize F_Co_compile cs n w2.2 A.co x = M3 at wk3 we3 wg3 hw
  have c5 := wg3.ce
  have kb5 := wk3.kb
  obtain ⟨p31, p32, p33⟩ := we3.pot
  have sz3 := we3.ext.sz
  have h3 := h2.step (r1' := r1 - (w2.2.2.1 - M1.2.1) - (M3.2.1 - w2.2.2.1)) (r2' := r2 - (w2.2.2.2 - M1.2.2) - (M3.2.2 - w2.2.2.2)) we3.ext (by decide) (by decide) c5 (by omega) (by omega)
  have vs3 := (vt2.move we3.ext (by decide) (by decide) c5).full h3
  have L3 := h3.lay
  have q63 : (cQ M3 A.x 6).getD 0 = A.ma := by rw [L3.x_ma.2]; rfl
  simp only [q63] at hw
  have ans : w2.1 = (F_Mo_check n2 σ x).1 := Int32.toInt_inj.mp (y.trans m1.symm)
  have xok : Cx.Ok ⟨σ.2.2.1, N, C, P, tks σ, gvs σ⟩ := Cx.Ok.of (σ := σ) (R := R) (T := 3 + τ.length) hP J.moi.nok (fun _ _ _ => rfl)
  have nn := mi.nok.n
  have cc := mi.nok.c
  have fin : ∀ z : Int32, (z = 0 ↔ ¬ w2.1 < 3) → JM cs lim dE A (F_Ma_load cs M3 A.ma z) (F_Mo_check n2 σ x).2 := fun z hz => by
    obtain ⟨w4, u4, zs4, i3⟩ := vs3.mLoad z
    obtain ⟨kf4, kt4, vt4⟩ := u4.lite
    refine ⟨g5, k5, ⟨σ.2.2.1, N, C, P, tks σ, gvs σ⟩, tt, 0, 0, ⟨fa, ta, nf, nt, kf4, kt4, w4, vt4⟩, vt4.zs zs4 h46, ⟨xok, ?_, ?_⟩, Or.inr ⟨fun k h1 h2 i _ => ?_, ⟨x.toInt.toNat, l', by rw [m4]; exact hx, ⟨⟨hm, d1, d2⟩, fun k mm hd h8 => ?_⟩, cd, hl', op, hty⟩, by rw [p37]; exact m1, ?_⟩⟩
    · show (N : Int) ≤ _
      omega
    · show (C : Int) ≤ _
      omega
    · show (F_Mo_check n2 σ x).2.2.2.1 k i = σ.2.2.1 k i
      rw [X.keep k (Or.inl (by omega))]
    · exact ev_g8 (A := σ.2.2.1) (tk := tks σ) (gv := gvs σ) (N := N) (fun n hn => xok.kd n hn) (fun n hn p hp => (xok.tab.part n hn p hp).1) (fun n hn h8 q h1 h2 => (xok.cl n hn h8 q h1 h2).1) k x.toInt.toNat mm τ (fun _ => -1) (tt, ee, τ') hm hf hd h8
    · rw [vt4.mI, i3, p37, ← ans]
      exact hz
  have c3 : (3 : Int32).toInt = 3 := rfl
  by_cases h3' : 3 ≤ w2.1
  · rw [if_pos h3'] at hw
    subst hw
    refine fin 0 ⟨fun _ h => ?_, fun _ => rfl⟩
    rw [Int32.lt_iff_toInt_lt, c3] at h
    rw [Int32.le_iff_toInt_le, c3] at h3'
    omega
  · rw [if_neg h3'] at hw
    subst hw
    refine fin 1 ⟨fun h => absurd h (by decide), fun h => ?_⟩
    rw [Int32.lt_iff_toInt_lt, c3] at h
    rw [Int32.le_iff_toInt_le, c3] at h3'
    omega
theorem check_y (J : JY cs lim dE A (q + 1) σ M) (hn : 700 ≤ n) {n2 : Nat} (hn2 : 3000 ≤ n2) (x : Int32) : S_N_check cs lim n M A.x x ∧ S_Mo_check n2 σ x ∧ Same3 (F_N_check cs n M A.x x) (F_Mo_check n2 σ x) ∧ JY cs lim dE A q (F_Mo_check n2 σ x).2 (F_N_check cs n M A.x x).2.2 := by
  obtain ⟨J, m⟩ := J
  obtain ⟨s1, s2, b, j⟩ := check_j J hn hn2 x
  refine ⟨s1, s2, b, j, ?_⟩
  obtain ⟨τ, N, C, R, J⟩ := J
  exact check_m J m hn hn2 x j
theorem check_oy (J : JY cs lim dE A (q + 1) σ M) (hn : 700 ≤ n) (x : Int32) : Oth M (F_N_check cs n M A.x x).2.2 := check_o J.1 hn x
end
end
