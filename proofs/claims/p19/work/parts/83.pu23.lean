-- pure rows: DF DG DH DI DJ DK
section
/-! pure rows, the class: handle, names, look (written by gen_df.py) -/
section
variable {cs : Nat → ClassId} {lim : Nat × Nat} {A : Ad} {σ : mSt} {N C R F T : Nat} {g4 : Nat → Int32} {k4 : Nat} {M : gMem} {τ : TT} {K : Nat} {g : Nat → Int}
variable {Lf : gMem → Nat → Int32 → Int32 → Int32 × gMem} {Ls : gMem → Nat → Int32 → Int32 → Prop} {d n a fu : Nat} {lv : Int32}
theorem and_m1 (e : Int32) : e &&& ((0 : Int32) ^^^ (-1)) = e := by
  apply Int32.toBitVec_inj.mp
  rw [Int32.toBitVec_and]
  ext i hi
  rw [BitVec.getElem_and]
  have : (((0 : Int32) ^^^ (-1)).toBitVec)[i] = true := by revert hi; revert i; decide
  rw [this, Bool.and_true]
theorem ck_handle (X : Ctx σ N C R T) (hL : HL cs lim A σ N C F T g4 k4 Lf Ls d) (hn : n < N) (hk : ((σ.2.2.1) 5 n).toInt = 8) (hd : Dp σ n ≤ d + 1) (hv : 1 ≤ lv.toInt) (hv2 : lv.toInt + Dp σ n ≤ 41) (hs : (τ.length : Int) + Sz σ n ≤ 500) (h : (Cks cs lim A σ N C F T g4 k4) M τ K) (sc : Sc A M τ g) (ha : NodeAt M a (ndOf (σ.2.2.1) n)) (hf : 700 ≤ fu) : S_Ck_lookHandle cs lim fu Lf Ls M A.ck (some a) lv ∧ (LOk cs lim A σ N C F T g4 k4) M τ g K n (F_Ck_lookHandle cs fu Lf M A.ck (some a) lv) := by
  have N0 := X.nok.nd n hn
  obtain ⟨pa1, pa2, pa3⟩ := part_of N0.pa (N0.ha (by show 4 ≤ ((σ.2.2.1) 5 n).toInt; omega))
  obtain ⟨pb1, pb2, pb3⟩ := part_of N0.pb (N0.hb (by show ((σ.2.2.1) 5 n).toInt = 4 ∨ ((σ.2.2.1) 5 n).toInt = 5 ∨ ((σ.2.2.1) 5 n).toInt = 6 ∨ ((σ.2.2.1) 5 n).toInt = 8 ∨ ((σ.2.2.1) 5 n).toInt = 9 ∨ ((σ.2.2.1) 5 n).toInt = 10; omega))
  have s2 := N0.s2 (by omega)
  rw [sz_of (N0.ha (by show 4 ≤ ((σ.2.2.1) 5 n).toInt; omega)), sz_of (N0.hb (by show ((σ.2.2.1) 5 n).toInt = 4 ∨ ((σ.2.2.1) 5 n).toInt = 5 ∨ ((σ.2.2.1) 5 n).toInt = 6 ∨ ((σ.2.2.1) 5 n).toInt = 8 ∨ ((σ.2.2.1) 5 n).toInt = 9 ∨ ((σ.2.2.1) 5 n).toInt = 10; omega))] at s2
  have szb := sz_nn X.nok hn N0.pb
  have szc := sz_nn X.nok hn N0.pc
  have dpn := N0.dp
  have dpa := (X.nok.nd _ (Nat.lt_trans pa2 hn)).dp
  have sa := (X.nok.nd _ (Nat.lt_trans pa2 hn)).s1
  have dpb := (X.nok.nd _ (Nat.lt_trans pb2 hn)).dp
  have sb := (X.nok.nd _ (Nat.lt_trans pb2 hn)).s1
  have hev := ev_8 (A := (σ.2.2.1)) (tk := tks σ) (gv := gvs σ) (τ := τ) (g := g) hk pa2 pb2
  unfold S_Ck_lookHandle F_Ck_lookHandle
  simp only [Option.getD_some, mbind_eq]
  have nmv : ndOf (σ.2.2.1) n 2 = (σ.2.2.1) 6 n := by show nameOf (σ.2.2.1) n = _; unfold nameOf; rw [if_pos (by omega)]
  have vlv : ndOf (σ.2.2.1) n 1 = (σ.2.2.1) 7 n := by show valOf (σ.2.2.1) n = _; unfold valOf; rw [if_neg (by omega), if_neg (by omega), if_pos (by omega)]
  have frv : ndOf (σ.2.2.1) n 7 = (σ.2.2.1) 14 n := by show fromOf (σ.2.2.1) n = _; unfold fromOf; rw [if_pos (by omega)]
  obtain ⟨nm1, nm2⟩ := N0.nm (by show ((σ.2.2.1) 5 n).toInt = 3 ∨ ((σ.2.2.1) 5 n).toInt = 4 ∨ ((σ.2.2.1) 5 n).toInt = 5 ∨ ((σ.2.2.1) 5 n).toInt = 7 ∨ ((σ.2.2.1) 5 n).toInt = 8; omega)
  obtain ⟨cf1, cf2⟩ := N0.cf (by show ((σ.2.2.1) 5 n).toInt = 8; omega)
  have cm1 := N0.cm.1
  have hC := X.nok.hc
  have hcs : 0 ≤ csz σ ((σ.2.2.1) 14 n).toInt.toNat ((σ.2.2.1) 15 n).toInt.toNat := csz_mono (σ := σ) (k := 0) (Nat.zero_le _) (fun i hi => by
    have := N0.ce (by show ((σ.2.2.1) 5 n).toInt = 8; omega) (((σ.2.2.1) 14 n).toInt.toNat + i) (by omega) (by omega)
    have := (X.nok.nd ((σ.2.2.1) 19 (((σ.2.2.1) 14 n).toInt.toNat + i)).toInt.toNat (by omega)).s1
    omega)
  have hbyte : Byte ((σ.2.2.1) 7 n) := X.hrow n hn (by omega)
  have f1 : cI M a 4 = (σ.2.2.1) 9 n := ha.2 4 (by decide)
  rw [f1]
  obtain ⟨s1, r1⟩ := hL M τ g K _ ((σ.2.2.1) 9 n) (lv + 1) (Nat.lt_trans pa2 hn) pa1 (by omega) (by ((try (simp only [vp_in, Int32.toNatClampNeg, Int32.lt_iff_toInt_lt, Int32.le_iff_toInt_le, ← Int32.toInt_inj, Int32.toInt_add, Int32.toInt_sub, Int32.toInt_mul, Int32.reduceToInt, i32_neg1, Nat.reducePow, Int.reducePow, ne_eq, ge_iff_le, gt_iff_lt] at *)) <;> (first | omega | ((simp (disch := omega) only [bm32] at *) <;> omega)))) (by ((try (simp only [vp_in, Int32.toNatClampNeg, Int32.lt_iff_toInt_lt, Int32.le_iff_toInt_le, ← Int32.toInt_inj, Int32.toInt_add, Int32.toInt_sub, Int32.toInt_mul, Int32.reduceToInt, i32_neg1, Nat.reducePow, Int.reducePow, ne_eq, ge_iff_le, gt_iff_lt] at *)) <;> (first | omega | ((simp (disch := omega) only [bm32] at *) <;> omega)))) (by omega) h sc
  generalize Lf M A.ck ((σ.2.2.1) 9 n) (lv + 1) = w1 at r1 ⊢
  obtain ⟨x1, r1⟩ := r1.split
  have ha1 := ha.ext x1 (by decide)
  have X1 := x1
  rcases r1 with ⟨hw1, t1, e1, τ1, K1, q1_1, q1_2, q1_3, q1_4, q1_5, q1_6, q1_7, q1_8, q1_9, q1_10⟩ | ⟨hw1, q1_1, τ1, K1, q1_2, q1_3, q1_4⟩
  · simp only [if_neg hw1]
    have e2_ : cI w1.2 a 2 = (σ.2.2.1) 6 n := by rw [ha1.2 2 (by decide)]; exact nmv
    rw [e2_]
    obtain ⟨s9, v9, c9, x9, z9, a9⟩ := ck_rename q1_6 (x := (σ.2.2.1) 6 n) (t := F_Ck_typeIn cs w1.2 w1.1) (i := ((σ.2.2.1) 6 n).toInt.toNat) (by omega) (by omega)
    have bt : (F_Ck_typeIn cs w1.2 w1.1).toInt = (t1 : Nat) := q1_2
    have sc9 := q1_8.xenv (τ' := τ1) a9 (Nat.le_refl _) (by rw [bt]; omega)
    rw [bt] at sc9
    generalize F_Ck_rename cs w1.2 A.ck ((σ.2.2.1) 6 n) (F_Ck_typeIn cs w1.2 w1.1) = w9 at v9 c9 x9 z9 a9 sc9 ⊢
    have ha9 := ha1.ext x9 (by decide)
    have X9 : Ext Wl Vl true M w9.2 := X1.trans h.lay.mok x9
    have f2 : cI w9.2 a 5 = (σ.2.2.1) 10 n := ha9.2 5 (by decide)
    rw [f2]
    obtain ⟨s2_, r2⟩ := hL w9.2 τ1 _ K1 _ ((σ.2.2.1) 10 n) (lv + 1) (Nat.lt_trans pb2 hn) pb1 (by omega) (by ((try (simp only [vp_in, Int32.toNatClampNeg, Int32.lt_iff_toInt_lt, Int32.le_iff_toInt_le, ← Int32.toInt_inj, Int32.toInt_add, Int32.toInt_sub, Int32.toInt_mul, Int32.reduceToInt, i32_neg1, Nat.reducePow, Int.reducePow, ne_eq, ge_iff_le, gt_iff_lt] at *)) <;> (first | omega | ((simp (disch := omega) only [bm32] at *) <;> omega)))) (by ((try (simp only [vp_in, Int32.toNatClampNeg, Int32.lt_iff_toInt_lt, Int32.le_iff_toInt_le, ← Int32.toInt_inj, Int32.toInt_add, Int32.toInt_sub, Int32.toInt_mul, Int32.reduceToInt, i32_neg1, Nat.reducePow, Int.reducePow, ne_eq, ge_iff_le, gt_iff_lt] at *)) <;> (first | omega | ((simp (disch := omega) only [bm32] at *) <;> omega)))) (by omega) c9 sc9
    generalize Lf w9.2 A.ck ((σ.2.2.1) 10 n) (lv + 1) = w2 at r2 ⊢
    obtain ⟨x2, r2⟩ := r2.split
    have ha2 := ha9.ext x2 (by decide)
    have X2 : Ext Wl Vl true M w2.2 := X9.trans h.lay.mok x2
    have e2' : cI w2.2 a 2 = (σ.2.2.1) 6 n := by rw [ha2.2 2 (by decide)]; exact nmv
    rw [e2']
    rcases r2 with ⟨hw2, t2, e2, τ2, K2, q2_1, q2_2, q2_3, q2_4, q2_5, q2_6, q2_7, q2_8, q2_9, q2_10⟩ | ⟨hw2, q2_1, τ2, K2, q2_2, q2_3, q2_4⟩
    · obtain ⟨s4, v4, c4, x4, z4, a4⟩ := ck_rename q2_6 (x := (σ.2.2.1) 6 n) (t := w9.1) (i := ((σ.2.2.1) 6 n).toInt.toNat) (by omega) (by omega)
      have g0 := q1_8 ((σ.2.2.1) 6 n).toInt.toNat (by omega)
      have hle2 : τ1.length ≤ τ2.length := q2_10.length_le
      generalize F_Ck_rename cs w2.2 A.ck ((σ.2.2.1) 6 n) w9.1 = w4 at v4 c4 x4 z4 a4 ⊢
      have sc4 := q2_8.xenv (τ' := τ2) a4 (Nat.le_refl _) (by rw [v9, g0.1]; omega)
      rw [v9, g0.1, env_back] at sc4
      have ha4 := ha2.ext x4 (by decide)
      have X4 := X2.trans h.lay.mok x4
      have P4 : Pot M w4.2 K K2 := ((q1_7.trans (Pot.light z9)).trans q2_7).trans (Pot.light z4)
      have e1_ : cI w4.2 a 1 = (σ.2.2.1) 7 n := by rw [ha4.2 1 (by decide)]; exact vlv
      have e7_ : cI w4.2 a 7 = (σ.2.2.1) 14 n := by rw [ha4.2 7 (by decide)]; exact frv
      have he2 : F_Ck_effectsIn cs w4.2 w2.1 = e2 := q2_3
      simp only [if_neg hw2, e1_, e7_, he2, F_N_isWithin, S_N_isWithin]
      have evh : (ev σ.2.2.1 (tks σ) (gvs σ)) τ g n = if e2 &&& ((σ.2.2.1) 7 n ^^^ -1) = 0 then evC (σ.2.2.1) (tks σ) (gvs σ) g n t2 e1 47 0 τ2 else none := by
        rw [hev, q1_1]
        simp only [Option.bind_some]
        rw [q2_1]
        simp only [Option.bind_some]
      by_cases hwi : e2 &&& ((σ.2.2.1) 7 n ^^^ -1) = 0
      · simp only [if_pos hwi, if_neg (show ¬ (1 : Int32) = 0 by decide)]
        rw [if_pos hwi] at evh
        have bt2 : (F_Ck_typeIn cs w4.2 w2.1).toInt = (t2 : Nat) := q2_2
        have hl0 : e1 &&& ((0 : Int32) ^^^ (-1)) = left (σ.2.2.1) n 0 e1 := by
          exact and_m1 e1
        have hh0 : Had σ ((σ.2.2.1) 14 n).toInt.toNat 0 0 := by
          intro i hi
          have : ¬ Bit 0 i := by unfold Bit; simp
          exact ⟨fun z => absurd z this, fun z => by obtain ⟨k, hk0, -⟩ := z; omega⟩
        have many1 : ((σ.2.2.1) 15 n).toInt = (((σ.2.2.1) 15 n).toInt.toNat : Nat) := by omega
        have i1 : ((σ.2.2.1) 15 n).toInt.toNat ≤ 47 := by omega
        have i2 : ((σ.2.2.1) 15 n).toInt.toNat + 600 < fu := by omega
        have i3 : ((σ.2.2.1) 14 n).toInt = (((σ.2.2.1) 14 n).toInt.toNat + 0 : Nat) := by omega
        have i4 : (τ2.length : Int) ≤ (τ.length + Sz σ ((σ.2.2.1) 9 n).toInt.toNat + Sz σ ((σ.2.2.1) 10 n).toInt.toNat - 2) + csz σ ((σ.2.2.1) 14 n).toInt.toNat 0 := by
          show _ ≤ _ + (0 : Int)
          omega
        have i5 : ((τ.length : Int) + Sz σ ((σ.2.2.1) 9 n).toInt.toNat + Sz σ ((σ.2.2.1) 10 n).toInt.toNat - 2) + csz σ ((σ.2.2.1) 14 n).toInt.toNat ((σ.2.2.1) 15 n).toInt.toNat + 1 ≤ 500 := by omega
        obtain ⟨s5, x5, r5⟩ := ck_clauses (g := g) (x4 := w9.1) (x5 := w2.1) (S0 := (τ.length + Sz σ ((σ.2.2.1) 9 n).toInt.toNat + Sz σ ((σ.2.2.1) 10 n).toInt.toNat - 2 : Int)) X hL hn hk hd hv hv2 q1_3 rfl bt2 many1 ((σ.2.2.1) 15 n).toInt.toNat 0 47 fu 0 ((σ.2.2.1) 14 n) w4.2 τ2 K2 rfl (Nat.zero_le _) i1 i2 i3 q2_5 hh0 hl0 i4 i5 c4 sc4 ha4
        refine ⟨⟨⟨a, rfl, ha.1⟩, h.lay.ck_0.1, s1, ⟨a, rfl, ha1.1⟩, trivial, q1_6.lay.ck_0.1, s9, ⟨a, rfl, ha9.1⟩, c9.lay.ck_0.1, s2_, ⟨a, rfl, ha2.1⟩, q2_6.lay.ck_0.1, s4, ⟨a, rfl, ha4.1⟩, trivial, trivial, trivial, ⟨a, rfl, ha4.1⟩, s5⟩, ?_⟩
        generalize F_Ck_lookHandle_111 cs Lf fu w4.2 A.ck (some a) lv w1.1 w9.1 w2.1 ((σ.2.2.1) 7 n) (F_Ck_typeIn cs w4.2 w2.1) 0 ((σ.2.2.1) 14 n) = w5 at x5 r5 ⊢
        obtain ⟨v5, M5⟩ := w5
        dsimp only at x5 r5 ⊢
        rcases r5 with ⟨τ', K', z1, z2, z3, z4, z5, z6, z7⟩ | ⟨z1, z2, τ', K', z3, z4, z5⟩
        · rw [z2]
          have hle7 := z7.length_le
          exact LOk.good (X4.trans h.lay.mok x5) bt2 hbyte (by omega) (by rw [evh]; exact z1) z3 (P4.trans z4) z5 (by omega) (q1_10.trans (q2_10.trans z7))
        · rw [z2]
          exact LOk.fail (X4.trans h.lay.mok x5) (by rw [evh]; exact z1) z3 (P4.trans z4) (q1_10.trans (q2_10.trans z5))
      · rw [if_neg hwi] at evh
        obtain ⟨sb1, vb, cb, xb, zb⟩ := ck_blame c4 7 (cI w4.2 a 5)
        simp only [if_neg hwi, if_pos]
        rw [vb]
        exact ⟨⟨⟨a, rfl, ha.1⟩, h.lay.ck_0.1, s1, ⟨a, rfl, ha1.1⟩, trivial, q1_6.lay.ck_0.1, s9, ⟨a, rfl, ha9.1⟩, c9.lay.ck_0.1, s2_, ⟨a, rfl, ha2.1⟩, q2_6.lay.ck_0.1, s4, ⟨a, rfl, ha4.1⟩, trivial, trivial, trivial, ⟨a, rfl, ha4.1⟩, c4.lay.ck_0.1, sb1, trivial⟩, LOk.fail (X4.trans h.lay.mok xb) evh cb (P4.trans (Pot.light zb)) (q1_10.trans q2_10)⟩
    · obtain ⟨s4, v4, c4, x4, z4, a4⟩ := ck_rename q2_2 (x := (σ.2.2.1) 6 n) (t := w9.1) (i := ((σ.2.2.1) 6 n).toInt.toNat) (by omega) (by omega)
      generalize F_Ck_rename cs w2.2 A.ck ((σ.2.2.1) 6 n) w9.1 = w4 at v4 c4 x4 z4 a4 ⊢
      simp only [if_pos hw2]
      refine ⟨⟨⟨a, rfl, ha.1⟩, h.lay.ck_0.1, s1, ⟨a, rfl, ha1.1⟩, trivial, q1_6.lay.ck_0.1, s9, ⟨a, rfl, ha9.1⟩, c9.lay.ck_0.1, s2_, ⟨a, rfl, ha2.1⟩, q2_2.lay.ck_0.1, s4, trivial⟩, LOk.fail (X2.trans h.lay.mok x4) ?_ c4 (((q1_7.trans (Pot.light z9)).trans q2_3).trans (Pot.light z4)) (q1_10.trans q2_4)⟩
      rw [hev, q1_1]
      simp only [Option.bind_some]
      rw [q2_1]
      rfl
  · simp only [if_pos hw1]
    exact ⟨⟨⟨a, rfl, ha.1⟩, h.lay.ck_0.1, s1, trivial⟩, LOk.fail X1 (by rw [hev, q1_1]; rfl) q1_2 q1_3 q1_4⟩
theorem ck_name (X : Ctx σ N C R T) (hn : n < N) (hk : ((σ.2.2.1) 5 n).toInt = 3) (h : (Cks cs lim A σ N C F T g4 k4) M τ K) (sc : Sc A M τ g) (ha : NodeAt M a (ndOf (σ.2.2.1) n)) (x : Int32) : S_Ck_lookName cs lim M A.ck (some a) x ∧ (LOk cs lim A σ N C F T g4 k4) M τ g K n (F_Ck_lookName cs M A.ck (some a) x) := by
  have N0 := X.nok.nd n hn
  obtain ⟨nm1, nm2⟩ := N0.nm (by show ((σ.2.2.1) 5 n).toInt = 3 ∨ ((σ.2.2.1) 5 n).toInt = 4 ∨ ((σ.2.2.1) 5 n).toInt = 5 ∨ ((σ.2.2.1) 5 n).toInt = 7 ∨ ((σ.2.2.1) 5 n).toInt = 8; omega)
  have hev := ev_3 (A := (σ.2.2.1)) (tk := tks σ) (gv := gvs σ) (τ := τ) (g := g) hk
  have fv : cI M a 1 = (σ.2.2.1) 6 n := by rw [ha.2 1 (by decide)]; show valOf (σ.2.2.1) n = _; unfold valOf; rw [if_pos (by omega)]
  have d1 : ¬ (σ.2.2.1) 6 n < 0 := by clear X hev; ((try (simp only [vp_in, Int32.toNatClampNeg, Int32.lt_iff_toInt_lt, Int32.le_iff_toInt_le, ← Int32.toInt_inj, Int32.toInt_add, Int32.toInt_sub, Int32.toInt_mul, Int32.reduceToInt, i32_neg1, Nat.reducePow, Int.reducePow, ne_eq, ge_iff_le, gt_iff_lt] at *)) <;> (first | omega | ((simp (disch := omega) only [bm32] at *) <;> omega)))
  have d2 : ¬ 10 ≤ (σ.2.2.1) 6 n := by clear X hev; ((try (simp only [vp_in, Int32.toNatClampNeg, Int32.lt_iff_toInt_lt, Int32.le_iff_toInt_le, ← Int32.toInt_inj, Int32.toInt_add, Int32.toInt_sub, Int32.toInt_mul, Int32.reduceToInt, i32_neg1, Nat.reducePow, Int.reducePow, ne_eq, ge_iff_le, gt_iff_lt] at *)) <;> (first | omega | ((simp (disch := omega) only [bm32] at *) <;> omega)))
  have vp : vp_in ((σ.2.2.1) 6 n) 10 := by clear X hev; ((try (simp only [vp_in, Int32.toNatClampNeg, Int32.lt_iff_toInt_lt, Int32.le_iff_toInt_le, ← Int32.toInt_inj, Int32.toInt_add, Int32.toInt_sub, Int32.toInt_mul, Int32.reduceToInt, i32_neg1, Nat.reducePow, Int.reducePow, ne_eq, ge_iff_le, gt_iff_lt] at *)) <;> (first | omega | ((simp (disch := omega) only [bm32] at *) <;> omega)))
  have hcl : ((σ.2.2.1) 6 n).toNatClampNeg = ((σ.2.2.1) 6 n).toInt.toNat := rfl
  have sn := N0.s1
  obtain ⟨sc1, sc2, sc3⟩ := sc ((σ.2.2.1) 6 n).toInt.toNat (by omega)
  unfold S_Ck_lookName F_Ck_lookName
  simp only [Option.getD_some, fv, if_neg d1, if_neg d2, h.lay.ck_4.2, h.lay.sc.2, mbind_eq, hcl]
  by_cases hz : aF M A.sc ((σ.2.2.1) 6 n).toInt.toNat = -1
  · obtain ⟨sb1, vb, cb, xb, zb⟩ := ck_blame h 5 x
    simp only [if_pos hz]
    rw [vb]
    refine ⟨⟨⟨a, rfl, ha.1⟩, h.lay.ck_0.1, ⟨trivial, h.lay.sc.1⟩, vp, h.lay.ck_0.1, sb1, trivial⟩, LOk.fail xb ?_ cb (Pot.light zb) (List.prefix_refl _)⟩
    rw [hev, if_pos (by rw [← sc1, hz]; rfl)]
  · simp only [if_neg hz, F_Ck_seenAs]
    have hne : ¬ g ((σ.2.2.1) 6 n).toInt.toNat = -1 := fun z => hz (Int32.toInt_inj.mp (by rw [sc1, z]; rfl))
    refine ⟨⟨⟨a, rfl, ha.1⟩, h.lay.ck_0.1, ⟨trivial, h.lay.sc.1⟩, vp, h.lay.ck_0.1, ⟨trivial, h.lay.sc.1⟩, vp, trivial, trivial⟩, LOk.good (t := (g ((σ.2.2.1) 6 n).toInt.toNat).toNat) (Ext.rf h.lay.mok) (by rw [sc1]; omega) Byte.zero (by omega) ?_ h Pot.rf sc (by omega) (List.prefix_refl _)⟩
    rw [hev, if_neg hne]
theorem ck_look (X : Ctx σ N C R T) (hf : 700 ≤ fu) : ∀ d, HL cs lim A σ N C F T g4 k4 (F_Ck_look cs fu d) (S_Ck_look cs lim fu d) d := by
  intro d
  induction d with
  | zero =>
    intro M τ g K m x lv hm hx hd hv hv2 hs h sc
    have := (X.nok.nd m hm).dp
    omega
  | succ d ih =>
    intro M τ g K m x lv hm hx hd hv hv2 hs h sc
    have N0 := X.nok.nd m hm
    have dpm := N0.dp
    have sm := N0.s1
    obtain ⟨kk1, kk2⟩ := N0.k
    have hlv : lv ≤ 40 := by clear ih X; ((try (simp only [vp_in, Int32.toNatClampNeg, Int32.lt_iff_toInt_lt, Int32.le_iff_toInt_le, ← Int32.toInt_inj, Int32.toInt_add, Int32.toInt_sub, Int32.toInt_mul, Int32.reduceToInt, i32_neg1, Nat.reducePow, Int.reducePow, ne_eq, ge_iff_le, gt_iff_lt] at *)) <;> (first | omega | ((simp (disch := omega) only [bm32] at *) <;> omega)))
    obtain ⟨s0, a, f1, f2, ha⟩ := ns_at (lim := lim) h.lay h.ns hx hm
    have k0 : cI M a 0 = (σ.2.2.1) 5 m := ha.2 0 (by decide)
    simp only [S_Ck_look, F_Ck_look, if_pos hlv, mbind_eq, h.lay.ck_0.2, Option.getD_some, f1, k0]
    have hd' : Dp σ m ≤ d + 1 := by omega
    have i0 : (0 : Int32).toInt = 0 := rfl
    have i1 : (1 : Int32).toInt = 1 := rfl
    have i2 : (2 : Int32).toInt = 2 := rfl
    have tri : ∀ (t : Int32) (i : Nat), t.toInt = i → i < 3 → (ev σ.2.2.1 (tks σ) (gvs σ)) τ g m = some (i, 0, τ) → (LOk cs lim A σ N C F T g4 k4) M τ g K m (F_Ck_seenAs cs M t 0, M) := fun t i hti hi hev => LOk.good (Ext.rf h.lay.mok) hti Byte.zero (by omega) hev h Pot.rf sc (by omega) (List.prefix_refl _)
    have kne : ∀ j : Int32, ¬ (σ.2.2.1) 5 m = j → ¬ ((σ.2.2.1) 5 m).toInt = j.toInt := fun j hj z => hj (Int32.toInt_inj.mp z)
    have base : cOk 6 M A.ck ∧ cOq 3 M (some A.ns) ∧ S_Ns_at cs lim M A.ns x ∧ cOq 4 M (some a) := ⟨h.lay.ck_0.1, ⟨_, rfl, h.lay.ns_0.1⟩, s0, ⟨a, rfl, ha.1⟩⟩
    obtain ⟨b1, b2, b3, b4⟩ := base
    by_cases c0 : (σ.2.2.1) 5 m = 0
    · simp only [if_pos c0]
      exact ⟨⟨b1, b2, b3, b4, trivial, trivial⟩, tri 0 0 rfl (by omega) (ev_0 (by rw [c0]; rfl))⟩
    · simp only [if_neg c0]
      by_cases c1 : (σ.2.2.1) 5 m = 1
      · simp only [if_pos c1]
        exact ⟨⟨b1, b2, b3, b4, trivial, trivial⟩, tri 1 1 rfl (by omega) (ev_1 (by rw [c1]; rfl))⟩
      · simp only [if_neg c1]
        by_cases c2 : (σ.2.2.1) 5 m = 2
        · simp only [if_pos c2]
          exact ⟨⟨b1, b2, b3, b4, trivial, trivial⟩, tri 2 2 rfl (by omega) (ev_2 (by rw [c2]; rfl))⟩
        · simp only [if_neg c2]
          by_cases c3 : (σ.2.2.1) 5 m = 3
          · simp only [if_pos c3]
            have r := ck_name X hm (by rw [c3]; rfl) h sc ha x
            exact ⟨⟨b1, b2, b3, b4, b1, r.1, trivial⟩, r.2⟩
          · simp only [if_neg c3]
            by_cases c4 : (σ.2.2.1) 5 m = 4
            · simp only [if_pos c4]
              have r := ck_let (fu := fu) X ih hm (by rw [c4]; rfl) hd' hv hv2 hs h sc ha
              exact ⟨⟨b1, b2, b3, b4, b1, r.1, trivial⟩, r.2⟩
            · simp only [if_neg c4]
              by_cases c5 : (σ.2.2.1) 5 m = 5
              · simp only [if_pos c5]
                have r := ck_rec (fu := fu) X ih hm (by rw [c5]; rfl) hd' hv hv2 hs h sc ha
                exact ⟨⟨b1, b2, b3, b4, b1, r.1, trivial⟩, r.2⟩
              · simp only [if_neg c5]
                by_cases c6 : (σ.2.2.1) 5 m = 6
                · simp only [if_pos c6]
                  have r := ck_choice (fu := fu) X ih hm (by rw [c6]; rfl) hd' hv hv2 hs h sc ha
                  exact ⟨⟨b1, b2, b3, b4, b1, r.1, trivial⟩, r.2⟩
                · simp only [if_neg c6]
                  by_cases c7 : (σ.2.2.1) 5 m = 7
                  · simp only [if_pos c7]
                    have r := ck_fn (fu := fu) X ih hm (by rw [c7]; rfl) hd' hv hv2 hs h sc ha (by omega)
                    exact ⟨⟨b1, b2, b3, b4, b1, r.1, trivial⟩, r.2⟩
                  · simp only [if_neg c7]
                    by_cases c8 : (σ.2.2.1) 5 m = 8
                    · simp only [if_pos c8]
                      have r := ck_handle (fu := fu) X ih hm (by rw [c8]; rfl) hd' hv hv2 hs h sc ha hf
                      exact ⟨⟨b1, b2, b3, b4, b1, r.1, trivial⟩, r.2⟩
                    · simp only [if_neg c8]
                      by_cases c9 : (σ.2.2.1) 5 m = 9
                      · simp only [if_pos c9]
                        have r := ck_two (fu := fu) X ih hm (by rw [c9]; rfl) hd' hv hv2 hs h sc ha
                        exact ⟨⟨b1, b2, b3, b4, b1, r.1, trivial⟩, r.2⟩
                      · simp only [if_neg c9]
                        by_cases c10 : (σ.2.2.1) 5 m = 10
                        · simp only [if_pos c10]
                          have r := ck_call (fu := fu) X ih hm (by rw [c10]; rfl) hd' hv hv2 hs h sc ha
                          exact ⟨⟨b1, b2, b3, b4, b1, r.1, trivial⟩, r.2⟩
                        · simp only [if_neg c10]
                          by_cases c11 : (σ.2.2.1) 5 m = 11
                          · simp only [if_pos c11]
                            have r := ck_perform (fu := fu) X ih hm (by rw [c11]; rfl) hd' hv hv2 hs h sc ha
                            exact ⟨⟨b1, b2, b3, b4, b1, r.1, trivial⟩, r.2⟩
                          · simp only [if_neg c11]
                            exfalso
                            have n0 := kne 0 c0
                            have n1 := kne 1 c1
                            have n2 := kne 2 c2
                            have n3 := kne 3 c3
                            have n4 := kne 4 c4
                            have n5 := kne 5 c5
                            have n6 := kne 6 c6
                            have n7 := kne 7 c7
                            have n8 := kne 8 c8
                            have n9 := kne 9 c9
                            have n10 := kne 10 c10
                            have n11 := kne 11 c11
                            have e3 : (3 : Int32).toInt = 3 := rfl
                            have e4 : (4 : Int32).toInt = 4 := rfl
                            have e5 : (5 : Int32).toInt = 5 := rfl
                            have e6 : (6 : Int32).toInt = 6 := rfl
                            have e7 : (7 : Int32).toInt = 7 := rfl
                            have e8 : (8 : Int32).toInt = 8 := rfl
                            have e9 : (9 : Int32).toInt = 9 := rfl
                            have e10 : (10 : Int32).toInt = 10 := rfl
                            have e11 : (11 : Int32).toInt = 11 := rfl
                            rw [i0] at n0
                            rw [i1] at n1
                            rw [i2] at n2
                            rw [e3] at n3
                            rw [e4] at n4
                            rw [e5] at n5
                            rw [e6] at n6
                            rw [e7] at n7
                            rw [e8] at n8
                            rw [e9] at n9
                            rw [e10] at n10
                            rw [e11] at n11
                            have kk1' : 0 ≤ ((σ.2.2.1) 5 m).toInt := kk1
                            have kk2' : ((σ.2.2.1) 5 m).toInt ≤ 11 := kk2
                            clear ih X kne tri
                            omega
end
end
section
/-! pure rows, the class: types are dropped; the check's own fields -/
theorem pre_t {τ τ' : TT} (p : τ <+: τ') {t : Nat} (h3 : 3 ≤ t) (h : t < 3 + τ.length) : tA τ' t = tA τ t ∧ tR τ' t = tR τ t ∧ tW τ' t = tW τ t := by
  obtain ⟨l, rfl⟩ := p
  have : (τ ++ l).getD (t - 3) (0, 0, 0) = τ.getD (t - 3) (0, 0, 0) := by
    rw [List.getD_eq_getElem?_getD, List.getD_eq_getElem?_getD, List.getElem?_append_left (by omega)]
  unfold tA tR tW
  rw [this]
  exact ⟨rfl, rfl, rfl⟩
section
variable {cs : Nat → ClassId} {lim : Nat × Nat} {A : Ad} {M : gMem} {τ τ' : TT} {K : Nat}
theorem TyA.drop {W V : List (Nat × Nat)} {al : Bool} {M' : gMem} (h : TyA cs A M τ' K) (e : Ext W V al M M') (h2 : W.contains (2, 0) = false) (h3 : V.contains (2, 0) = false) (p : τ <+: τ') (hc : (cI M' A.ty 4).toInt = 3 + τ.length) : TyA cs A M' τ K := by
  obtain ⟨g0, g1, g2, g3, k0, k1, k2, k3, c, r, rest⟩ := h.ex
  have hl := p.length_le
  refine ⟨hc, g0, g1, g2, g3, k0, k1, k2, k3, ⟨c.c0.ext e h2 h3, c.c1.ext e h2 h3, c.c2.ext e h2 h3, c.c3.ext e h2 h3, fun t ht ht' => ?_, by have := c.len; omega, fun t ht ht' => ?_⟩, fun a b ha hb => ?_, rest⟩
  · obtain ⟨p1, p2, p3⟩ := pre_t p ht ht'
    have := c.g t ht (by omega)
    rw [p1, p2, p3] at this
    exact this
  · obtain ⟨p1, p2, p3⟩ := pre_t p ht ht'
    have := c.wt t ht (by omega)
    rw [p1, p2] at this
    exact this
  · rw [r a b (by omega) (by omega)]
    constructor
    · rintro (g | ⟨q1, q2, q3, q4, q5⟩)
      · exact Or.inl g
      · obtain ⟨p1, p2, p3⟩ := pre_t p q1 ha
        obtain ⟨p4, p5, p6⟩ := pre_t p q2 hb
        rw [p1, p4] at q3
        rw [p2, p5] at q4
        rw [p3, p6] at q5
        exact Or.inr ⟨q1, q2, q3, q4, q5⟩
    · rintro (g | ⟨q1, q2, q3, q4, q5⟩)
      · exact Or.inl g
      · obtain ⟨p1, p2, p3⟩ := pre_t p q1 ha
        obtain ⟨p4, p5, p6⟩ := pre_t p q2 hb
        rw [← p1, ← p4] at q3
        rw [← p2, ← p5] at q4
        rw [← p3, ← p6] at q5
        exact Or.inr ⟨q1, q2, q3, q4, q5⟩
end
abbrev Wx : List (Nat × Nat) := [(1, 4), (2, 0), (6, 5), (6, 6), (6, 7)]
section
variable {cs : Nat → ClassId} {lim : Nat × Nat} {A : Ad} {σ : mSt} {N C R F T : Nat} {g4 : Nat → Int32} {k4 : Nat} {M : gMem} {τ : TT} {K : Nat} {g : Nat → Int}
theorem Cks.afterx {M' : gMem} {τ' : TT} {K' : Nat} (h : Cks cs lim A σ N C F T g4 k4 M τ K) (e : Ext Wx Vl true M M') (ty : TyA cs A M' τ' K') (rm : Rm lim M' K') (rows : ∀ x ∈ τ', Byte x.2.2) (c4 : CeIs cs M' A.c4 g4 k4) (tt : T ≤ 3 + τ'.length) : Cks cs lim A σ N C F T g4 k4 M' τ' K' :=
  ⟨h.lay.ext e (by decide), h.ns.ext h.lay e (by decide) (by decide) (by decide), h.ef.ext h.lay e (by decide), ty, rm, rows, c4, tt⟩
/-- a field of the checker's own is written -/
theorem ck_put (h : Cks cs lim A σ N C F T g4 k4 M τ K) (k : Nat) (hk : k = 5 ∨ k = 6 ∨ k = 7) (x : Int32) : Cks cs lim A σ N C F T g4 k4 (cP 6 M A.ck k (.int x)) τ K ∧ Ext Wx Vl true M (cP 6 M A.ck k (.int x)) ∧ (cP 6 M A.ck k (.int x)).2 = M.2 := by
  have o := h.lay.ck_0.1
  have e : Ext [(6, 5), (6, 6), (6, 7)] [] false M (cP 6 M A.ck k (.int x)) := (Ext.rf h.lay.mok).putI k o (by rcases hk with rfl | rfl | rfl <;> decide) (by rcases hk with rfl | rfl | rfl <;> decide)
  have e3 : Ext Wx Vl true M (cP 6 M A.ck k (.int x)) := e.mono (by decide) (by decide) (by decide)
  refine ⟨h.afterx e3 (h.ty.ext h.lay e (by decide) (by decide) (by decide)) h.rm h.rows (h.c4.ext e (by decide) (by decide)) h.tt, e3, rfl⟩
end
end
section
/-! pure rows, the class: a program is examined -/
section
variable {cs : Nat → ClassId} {lim : Nat × Nat} {A : Ad} {σ : mSt} {N C R F T : Nat} {g4 : Nat → Int32} {k4 : Nat} {M : gMem} {τ τ' : TT} {K : Nat} {g : Nat → Int}
theorem ck_back (h : Cks cs lim A σ N C F T g4 k4 M τ' K) (p : τ <+: τ') (hT : T ≤ 3 + τ.length) {x : Int32} (hx : x.toInt = 3 + τ.length) : S_Ty_dropBack cs lim M A.ty x ∧ cOk 6 (F_Ty_dropBack cs M A.ty x) A.ck ∧ Cks cs lim A σ N C F T g4 k4 (cP 6 (F_Ty_dropBack cs M A.ty x) A.ck 7 (.int (-1))) τ K ∧ Ext Wx Vl true M (cP 6 (F_Ty_dropBack cs M A.ty x) A.ck 7 (.int (-1))) ∧ (cP 6 (F_Ty_dropBack cs M A.ty x) A.ck 7 (.int (-1))).2 = M.2 := by
  have o := h.lay.ty_0.1
  unfold F_Ty_dropBack
  have e : Ext [(1, 4)] [] false M (cP 1 M A.ty 4 (.int x)) := (Ext.rf h.lay.mok).putI 4 o (by decide) (by decide)
  have e3 : Ext Wx Vl true M (cP 1 M A.ty 4 (.int x)) := e.mono (by decide) (by decide) (by decide)
  have c1 : Cks cs lim A σ N C F T g4 k4 (cP 1 M A.ty 4 (.int x)) τ K := by
    refine h.afterx e3 (h.ty.drop e (by decide) (by decide) p ?_) h.rm (fun y hy => h.rows y (p.subset hy)) (h.c4.ext e (by decide) (by decide)) hT
    rw [cI_put o (by decide)]
    exact hx
  obtain ⟨c2, e4, s4⟩ := ck_put c1 7 (Or.inr (Or.inr rfl)) (-1)
  exact ⟨⟨o, trivial⟩, c1.lay.ck_0.1, c2, e3.trans h.lay.mok e4, s4⟩
def ExOk (cs : Nat → ClassId) (lim : Nat × Nat) (A : Ad) (σ : mSt) (N C F : Nat) (g4 : Nat → Int32) (k4 : Nat) (M : gMem) (τ : TT) (K m : Nat) (w : Int32 × gMem) : Prop :=
  Ext Wx Vl true M w.2 ∧ ((∃ t e τ' K', found σ τ m = some (t, e, τ') ∧ τ'.length ≤ 60 ∧ w.1.toInt = (t : Nat) ∧ t < 3 + τ'.length ∧ Cks cs lim A σ N C F (3 + τ.length) g4 k4 w.2 τ' K' ∧ Pot M w.2 K K' ∧ τ <+: τ') ∨
    ((∀ t e τ', found σ τ m = some (t, e, τ') → ¬ τ'.length ≤ 60) ∧ w.1 = -1 ∧ ∃ K', Cks cs lim A σ N C F (3 + τ.length) g4 k4 w.2 τ K' ∧ Pot M w.2 K K'))
theorem ck_examine (X : Ctx σ N C R (3 + τ.length)) {fu : Nat} (hf : 700 ≤ fu) (h : Cks cs lim A σ N C F (3 + τ.length) g4 k4 M τ K) (hl : τ.length ≤ 60) {x : Int32} {m : Nat} (hm : m < N) (hx : x.toInt = m) (hd : Dp σ m ≤ 40) (hs : Sz σ m ≤ 400) :
    S_Ck_examine cs lim fu M A.ck x ∧ ExOk cs lim A σ N C F g4 k4 M τ K m (F_Ck_examine cs fu M A.ck x) := by
  obtain ⟨c1, x1, z1⟩ := ck_put h 5 (Or.inl rfl) 0
  obtain ⟨c2, x2, z2⟩ := ck_put c1 6 (Or.inr (Or.inl rfl)) (-1)
  obtain ⟨c3, x3, z3⟩ := ck_put c2 7 (Or.inr (Or.inr rfl)) 0
  have sfo : S_Ck_forget cs lim M A.ck := ⟨h.lay.ck_0.1, c1.lay.ck_0.1, c2.lay.ck_0.1, trivial⟩
  have hF3 : F_Ck_forget cs M A.ck = cP 6 (cP 6 (cP 6 M A.ck 5 (.int 0)) A.ck 6 (.int (-1))) A.ck 7 (.int 0) := rfl
  have X3 : Ext Wx Vl true M (F_Ck_forget cs M A.ck) := by rw [hF3]; exact (x1.trans h.lay.mok x2).trans h.lay.mok x3
  have Z3 : (F_Ck_forget cs M A.ck).2 = M.2 := by rw [hF3, z3, z2, z1]
  rw [← hF3] at c3
  clear c1 c2 x1 x2 x3 z1 z2 z3
  unfold S_Ck_examine F_Ck_examine
  simp only [mbind_eq]
  generalize F_Ck_forget cs M A.ck = w3 at c3 X3 Z3 ⊢
  have L3 := c3.lay
  have nv : ¬ NotV [(6, 4)] w3 A.sc := fun z => z A.ck 6 4 (by decide) (by decide) L3.ck_4.1 L3.ck_4.2
  have i10 : (nI 10).toInt = (10 : Nat) := nI_toI (by decide)
  obtain ⟨s4, x4, v4, o4⟩ := ar_fill (cs := cs) (lim := lim) (b := A.sc) (len := 10) (V := [(6, 4)]) (y := -1) (by decide) 10 0 0 (nI 10) fu w3 rfl (by decide) rfl i10 (by omega) L3.mok L3.sc.1 L3.sc.2 nv
  have hq4 : cQ w3 A.ck 4 = some A.sc := L3.ck_4.2
  have sf : S_Ar_fill cs lim fu w3 (cQ w3 A.ck 4) (-1) := by
    rw [hq4]
    unfold S_Ar_fill
    simp only [Option.getD_some, L3.sc.2]
    exact ⟨⟨trivial, ⟨_, L3.sc.1.eq⟩⟩, s4⟩
  have fF : F_Ar_fill cs fu w3 (cQ w3 A.ck 4) (-1) = F_Ar_fill_5 cs fu w3 (some A.sc) (-1) 0 (nI 10) := by
    rw [hq4]
    unfold F_Ar_fill
    simp only [Option.getD_some, L3.sc.2]
  rw [fF]
  generalize F_Ar_fill_5 cs fu w3 (some A.sc) (-1) 0 (nI 10) = w6 at s4 x4 v4 o4 ⊢
  obtain ⟨c6, X6, Z6⟩ := c3.light x4 (by decide) (by decide)
  have sc6 : Sc A w6 τ (fun _ => -1) := fun y hy => by
    rw [v4 y, if_pos ⟨Nat.zero_le _, hy⟩]
    refine ⟨rfl, Int.le_refl _, ?_⟩
    show (-1 : Int) < 3 + (τ.length : Int)
    omega
  have L6 := c6.lay
  have hq1 : cQ w6 A.ck 1 = some A.ty := L6.ck_1.2
  have X06 : Ext Wx Vl true M w6 := X3.trans h.lay.mok (X6.mono (by decide) (by decide) (by decide))
  simp only [hq1, Option.getD_some]
  have hfn : F_Ty_functions cs w6 A.ty = cI w6 A.ty 4 - 3 := rfl
  have hct := c6.ty.cnt
  have hback : (3 + F_Ty_functions cs w6 A.ty).toInt = 3 + (τ.length : Int) := by
    rw [hfn]
    clear X
    ((try (simp only [vp_in, Int32.toNatClampNeg, Int32.lt_iff_toInt_lt, Int32.le_iff_toInt_le, ← Int32.toInt_inj, Int32.toInt_add, Int32.toInt_sub, Int32.toInt_mul, Int32.reduceToInt, i32_neg1, Nat.reducePow, Int.reducePow, ne_eq, ge_iff_le, gt_iff_lt] at *)) <;> (first | omega | ((simp (disch := omega) only [bm32] at *) <;> omega)))
  obtain ⟨s7, r7⟩ := ck_look (lim := lim) (cs := cs) (A := A) (F := F) (g4 := g4) (k4 := k4) X hf 42 w6 τ (fun _ => -1) K m x 1 hm hx (by omega) (by decide) (by show (1 : Int) + _ ≤ _; omega) (by omega) c6 sc6
  generalize F_Ck_look cs fu 42 w6 A.ck x 1 = w13 at r7 ⊢
  have P6 : Pot M w6 K K := Pot.light (Z6.trans Z3)
  obtain ⟨x7, r7⟩ := r7.split
  have X13 : Ext Wx Vl true M w13.2 := X06.trans h.lay.mok (x7.mono (by decide) (by decide) (by decide))
  have pre : S_Ty_functions cs lim w6 A.ty := ⟨L6.ty_0.1, trivial⟩
  rcases r7 with ⟨hw, t, e, τ', K', q1, q2, q3, q4, q5, q6, q7, q8, q9, q10⟩ | ⟨hw, q1, τ', K', q2, q3, q4⟩
  · simp only [if_neg hw]
    have L13 := q6.lay
    have hq : cQ w13.2 A.ck 1 = some A.ty := L13.ck_1.2
    simp only [hq, Option.getD_some]
    have hf13 : F_Ty_functions cs w13.2 A.ty = cI w13.2 A.ty 4 - 3 := rfl
    have hc13 := q6.ty.cnt
    have hlen := q6.ty.len
    have hv13 : (F_Ty_functions cs w13.2 A.ty).toInt = (τ'.length : Nat) := by
      rw [hf13]
      clear X
      ((try (simp only [vp_in, Int32.toNatClampNeg, Int32.lt_iff_toInt_lt, Int32.le_iff_toInt_le, ← Int32.toInt_inj, Int32.toInt_add, Int32.toInt_sub, Int32.toInt_mul, Int32.reduceToInt, i32_neg1, Nat.reducePow, Int.reducePow, ne_eq, ge_iff_le, gt_iff_lt] at *)) <;> (first | omega | ((simp (disch := omega) only [bm32] at *) <;> omega)))
    have i60 : (60 : Int32).toInt = 60 := rfl
    by_cases h6 : F_Ty_functions cs w13.2 A.ty ≤ 60
    · have hle : τ'.length ≤ 60 := by
        have := Int32.le_iff_toInt_le.mp h6
        rw [hv13, i60] at this
        omega
      simp only [if_pos h6]
      obtain ⟨c8, e8, s8⟩ := ck_put q6 7 (Or.inr (Or.inr rfl)) (F_Ck_effectsIn cs w13.2 w13.1)
      refine ⟨⟨h.lay.ck_0.1, sfo, L3.ck_0.1, sf, L6.ck_0.1, ⟨_, rfl, L6.ty_0.1⟩, pre, L6.ck_0.1, s7, L13.ck_0.1, ⟨_, rfl, L13.ty_0.1⟩, ⟨L13.ty_0.1, trivial⟩, trivial, L13.ck_0.1, trivial, trivial⟩, X13.trans h.lay.mok e8, Or.inl ⟨t, e, τ', K', q1, hle, q2, q5, c8, ?_, q10⟩⟩
      exact (P6.trans q7).trans (Pot.light s8)
    · have hgt : ¬ τ'.length ≤ 60 := fun hh => h6 (Int32.le_iff_toInt_le.mpr (by rw [hv13, i60]; omega))
      simp only [if_neg h6]
      obtain ⟨s8, v8, c8, x8, z8⟩ := ck_blame (lim := lim) q6 9 (-1)
      generalize F_Ck_blame cs w13.2 A.ck 9 (-1) = w44 at v8 c8 x8 z8 ⊢
      simp only [if_pos v8]
      have hq44 : cQ w44.2 A.ck 1 = some A.ty := c8.lay.ck_1.2
      simp only [hq44, Option.getD_some]
      obtain ⟨s9, o9, c9, e9, z9⟩ := ck_back c8 q10 (Nat.le_refl _) hback
      refine ⟨⟨h.lay.ck_0.1, sfo, L3.ck_0.1, sf, L6.ck_0.1, ⟨_, rfl, L6.ty_0.1⟩, pre, L6.ck_0.1, s7, L13.ck_0.1, ⟨_, rfl, L13.ty_0.1⟩, ⟨L13.ty_0.1, trivial⟩, L13.ck_0.1, s8, c8.lay.ck_0.1, ⟨_, rfl, c8.lay.ty_0.1⟩, s9, o9, trivial⟩, (X13.trans h.lay.mok (x8.mono (by decide) (by decide) (by decide))).trans h.lay.mok e9, Or.inr ⟨fun t' e' τ'' hh => ?_, rfl, K', c9, ?_⟩⟩
      · have : some (t, e, τ') = some (t', e', τ'') := q1.symm.trans hh
        cases this
        exact hgt
      · exact ((P6.trans q7).trans (Pot.light z8)).trans (Pot.light z9)
  · simp only [if_pos hw]
    have L13 := q2.lay
    have hq : cQ w13.2 A.ck 1 = some A.ty := L13.ck_1.2
    simp only [hq, Option.getD_some]
    obtain ⟨s9, o9, c9, e9, z9⟩ := ck_back q2 q4 (Nat.le_refl _) hback
    refine ⟨⟨h.lay.ck_0.1, sfo, L3.ck_0.1, sf, L6.ck_0.1, ⟨_, rfl, L6.ty_0.1⟩, pre, L6.ck_0.1, s7, L13.ck_0.1, ⟨_, rfl, L13.ty_0.1⟩, s9, o9, trivial⟩, X13.trans h.lay.mok e9, Or.inr ⟨fun t' e' τ'' hh => ?_, rfl, K', c9, (P6.trans q3).trans (Pot.light z9)⟩⟩
    have : none = some (t', e', τ'') := q1.symm.trans hh
    cases this
end
end
section
/-! pure rows, the class: a program is written down; its rows keep within bounds -/
def Wk (cs : Nat → ClassId) (lim : Nat × Nat) (A : Ad) (σ : mSt) (M : gMem) (N C F l k : Nat) : Prop := (Lay cs A M) ∧ (NsIs A M N C F (ndOf σ.2.2.1) (cdOf σ.2.2.1)) ∧ (∃ g, CeIs cs M A.c4 g k) ∧ ((cI M A.co 2).toInt = l) ∧ (k ≤ 16384) ∧ (M.2.1 + 16400 ≤ lim.1 + k ∧ M.2.2 + 50000 ≤ lim.2 + 2 * k)
theorem Wk.lay {cs : Nat → ClassId} {lim : Nat × Nat} {A : Ad} {σ : mSt} {M : gMem} {N C F l k : Nat} (self : Wk cs lim A σ M N C F l k) : Lay cs A M := self.1
theorem Wk.ns {cs : Nat → ClassId} {lim : Nat × Nat} {A : Ad} {σ : mSt} {M : gMem} {N C F l k : Nat} (self : Wk cs lim A σ M N C F l k) : NsIs A M N C F (ndOf σ.2.2.1) (cdOf σ.2.2.1) := self.2.1
theorem Wk.c4 {cs : Nat → ClassId} {lim : Nat × Nat} {A : Ad} {σ : mSt} {M : gMem} {N C F l k : Nat} (self : Wk cs lim A σ M N C F l k) : ∃ g, CeIs cs M A.c4 g k := self.2.2.1
theorem Wk.len {cs : Nat → ClassId} {lim : Nat × Nat} {A : Ad} {σ : mSt} {M : gMem} {N C F l k : Nat} (self : Wk cs lim A σ M N C F l k) : (cI M A.co 2).toInt = l := self.2.2.2.1
theorem Wk.kb {cs : Nat → ClassId} {lim : Nat × Nat} {A : Ad} {σ : mSt} {M : gMem} {N C F l k : Nat} (self : Wk cs lim A σ M N C F l k) : k ≤ 16384 := self.2.2.2.2.1
theorem Wk.rm {cs : Nat → ClassId} {lim : Nat × Nat} {A : Ad} {σ : mSt} {M : gMem} {N C F l k : Nat} (self : Wk cs lim A σ M N C F l k) : M.2.1 + 16400 ≤ lim.1 + k ∧ M.2.2 + 50000 ≤ lim.2 + 2 * k := self.2.2.2.2.2
def We (cs : Nat → ClassId) (A : Ad) (M M' : gMem) (k k' : Nat) : Prop := (Ext [(7, 2), (2, 0)] [(2, 0)] true M M') ∧ (∀ c g j, c ≠ A.c4 → CeIs cs M c g j → CeIs cs M' c g j) ∧ (Pot M M' k k')
theorem We.ext {cs : Nat → ClassId} {A : Ad} {M M' : gMem} {k k' : Nat} (self : We cs A M M' k k') : Ext [(7, 2), (2, 0)] [(2, 0)] true M M' := self.1
theorem We.oth {cs : Nat → ClassId} {A : Ad} {M M' : gMem} {k k' : Nat} (self : We cs A M M' k k') : ∀ c g j, c ≠ A.c4 → CeIs cs M c g j → CeIs cs M' c g j := self.2.1
theorem We.pot {cs : Nat → ClassId} {A : Ad} {M M' : gMem} {k k' : Nat} (self : We cs A M M' k k') : Pot M M' k k' := self.2.2
section
variable {cs : Nat → ClassId} {lim : Nat × Nat} {A : Ad} {σ : mSt} {N C R F T : Nat} {M M1 M2 : gMem} {l k k1 k2 : Nat}
theorem We.trans (hM : MOk M) (h : We cs A M M1 k k1) (h' : We cs A M1 M2 k1 k2) : We cs A M M2 k k2 := ⟨h.ext.trans hM h'.ext, fun c g j hc hg => h'.oth c g j hc (h.oth c g j hc hg), h.pot.trans h'.pot⟩
theorem Wk.rf (h : Wk cs lim A σ M N C F l k) : We cs A M M k k := ⟨Ext.rf h.lay.mok, fun _ _ _ _ hg => hg, Pot.rf⟩
theorem Wk.c4k (h : Wk cs lim A σ M N C F l k) : 16 ≤ k := by
  obtain ⟨g, hg⟩ := h.c4
  exact hg.lo
/-- one number is written -/
theorem co_put (h : Wk cs lim A σ M N C F l k) {x v : Int32} {i : Nat} (hx : x.toInt = i) (hi : i < 8005) : S_Ce_put cs lim M A.c4 x v ∧ ∃ k', Wk cs lim A σ (F_Ce_put cs M A.c4 x v) N C F l k' ∧ We cs A M (F_Ce_put cs M A.c4 x v) k k' ∧ cI (F_Ce_put cs M A.c4 x v) A.co 2 = cI M A.co 2 := by
  obtain ⟨g, hg⟩ := h.c4
  obtain ⟨r1, r2⟩ := h.rm
  have hk := h.kb
  obtain ⟨s, k', p⟩ := ce_put (lim := lim) h.lay.mok h.lay.bnd hg x v hx (by omega) (by omega) (by omega)
  obtain ⟨p1, p2, p3, p4⟩ := p.pot
  have e : Ext [(7, 2), (2, 0)] [(2, 0)] true M (F_Ce_put cs M A.c4 x v) := p.ext.mono (by decide) (by decide) (by decide)
  have ec : cI (F_Ce_put cs M A.c4 x v) A.co 2 = cI M A.co 2 := p.ext.xcI h.lay.co_0.1 (by decide)
  refine ⟨s, k', ⟨h.lay.ext e (by decide), h.ns.ext h.lay e (by decide) (by decide) (by decide), ⟨_, p.is⟩, by rw [ec]; exact h.len, by omega, by omega, by omega⟩, ⟨e, fun c g' j hc hg' => p.oth c g' j hc hg', p1, p2, p3⟩, ec⟩
theorem co_fill (h : Wk cs lim A σ M N C F l k) {x1 x2 x3 : Int32} {r i : Nat} (h1 : x1.toInt = r) (hr : r ≤ 1600) (h2 : x2.toInt = i) (hi : i < 5) : S_Co_fill cs lim M A.co x1 x2 x3 ∧ ∃ k', Wk cs lim A σ (F_Co_fill cs M A.co x1 x2 x3) N C F l k' ∧ We cs A M (F_Co_fill cs M A.co x1 x2 x3) k k' := by
  have hq := h.lay.co_1
  obtain ⟨s, k', w, e, -⟩ := co_put h (x := x1 * 5 + x2) (v := x3) (i := r * 5 + i) (by ((try (simp only [vp_in, Int32.toNatClampNeg, Int32.lt_iff_toInt_lt, Int32.le_iff_toInt_le, ← Int32.toInt_inj, Int32.toInt_add, Int32.toInt_sub, Int32.toInt_mul, Int32.reduceToInt, i32_neg1, Nat.reducePow, Int.reducePow, ne_eq, ge_iff_le, gt_iff_lt] at *)) <;> (first | omega | ((simp (disch := omega) only [bm32] at *) <;> omega)))) (by omega)
  unfold S_Co_fill F_Co_fill
  simp only [mbind_eq, hq.2, Option.getD_some]
  exact ⟨⟨hq.1, ⟨_, rfl, h.lay.objs (2, A.c4) (by simp [OBJS])⟩, s, trivial⟩, k', w, e⟩
theorem co_add (h : Wk cs lim A σ M N C F l k) (hl : l ≤ 1600) {x1 x2 : Int32} : S_Co_add cs lim M A.co x1 x2 ∧ (F_Co_add cs M A.co x1 x2).1.toInt = l ∧ ∃ k', Wk cs lim A σ (F_Co_add cs M A.co x1 x2).2 N C F (l + 1) k' ∧ We cs A M (F_Co_add cs M A.co x1 x2).2 k k' := by
  have hq := h.lay.co_1
  have hlen := h.len
  obtain ⟨s, k1, w1, e1, c1⟩ := co_put h (x := cI M A.co 2 * 5) (v := x1) (i := l * 5) (by ((try (simp only [vp_in, Int32.toNatClampNeg, Int32.lt_iff_toInt_lt, Int32.le_iff_toInt_le, ← Int32.toInt_inj, Int32.toInt_add, Int32.toInt_sub, Int32.toInt_mul, Int32.reduceToInt, i32_neg1, Nat.reducePow, Int.reducePow, ne_eq, ge_iff_le, gt_iff_lt] at *)) <;> (first | omega | ((simp (disch := omega) only [bm32] at *) <;> omega)))) (by omega)
  unfold S_Co_add F_Co_add
  simp only [mbind_eq, hq.2, Option.getD_some]
  generalize F_Ce_put cs M A.c4 (cI M A.co 2 * 5) x1 = M1 at w1 e1 c1 ⊢
  have hq1 := w1.lay.co_1
  simp only [hq1.2, Option.getD_some]
  obtain ⟨s2, k2, w2, e2, c2⟩ := co_put w1 (x := cI M A.co 2 * 5 + 1) (v := x2) (i := l * 5 + 1) (by ((try (simp only [vp_in, Int32.toNatClampNeg, Int32.lt_iff_toInt_lt, Int32.le_iff_toInt_le, ← Int32.toInt_inj, Int32.toInt_add, Int32.toInt_sub, Int32.toInt_mul, Int32.reduceToInt, i32_neg1, Nat.reducePow, Int.reducePow, ne_eq, ge_iff_le, gt_iff_lt] at *)) <;> (first | omega | ((simp (disch := omega) only [bm32] at *) <;> omega)))) (by omega)
  generalize F_Ce_put cs M1 A.c4 (cI M A.co 2 * 5 + 1) x2 = M2 at w2 e2 c2 ⊢
  have o2 := w2.lay.co_0.1
  have e3 : Ext [(7, 2), (2, 0)] [(2, 0)] true M2 (cP 7 M2 A.co 2 (.int (cI M2 A.co 2 + 1))) := (Ext.rf w2.lay.mok).putI 2 o2 (by decide) (by decide)
  have e3' : Ext [(7, 2)] [] false M2 (cP 7 M2 A.co 2 (.int (cI M2 A.co 2 + 1))) := (Ext.rf w2.lay.mok).putI 2 o2 (by decide) (by decide)
  have len2 := w2.len
  obtain ⟨g2, hg2⟩ := w2.c4
  refine ⟨⟨hq.1, hq.1, ⟨_, rfl, h.lay.objs (2, A.c4) (by simp [OBJS])⟩, s, hq1.1, ⟨_, rfl, w1.lay.objs (2, A.c4) (by simp [OBJS])⟩, s2, o2, o2, trivial⟩, hlen, k2, ⟨w2.lay.ext e3 (by decide), w2.ns.ext w2.lay e3 (by decide) (by decide) (by decide), ⟨g2, hg2.ext e3' (by decide) (by decide)⟩, ?_, w2.kb, w2.rm⟩, ?_⟩
  · rw [cI_put o2 (by decide)]
    ((try (simp only [vp_in, Int32.toNatClampNeg, Int32.lt_iff_toInt_lt, Int32.le_iff_toInt_le, ← Int32.toInt_inj, Int32.toInt_add, Int32.toInt_sub, Int32.toInt_mul, Int32.reduceToInt, i32_neg1, Nat.reducePow, Int.reducePow, ne_eq, ge_iff_le, gt_iff_lt] at *)) <;> (first | omega | ((simp (disch := omega) only [bm32] at *) <;> omega)))
  · exact (e1.trans h.lay.mok e2).trans h.lay.mok ⟨e3, fun c g j _ hg => hg.ext e3' (by decide) (by decide), Pot.light rfl⟩
end
end
section
/-! pure rows, the class: the parts of a program are written -/
def Wb (cs : Nat → ClassId) (lim : Nat × Nat) (A : Ad) (σ : mSt) (N C F : Nat) (M : gMem) (l k : Nat) (b : Int) (M' : gMem) : Prop := ∃ l' k', Wk cs lim A σ M' N C F l' k' ∧ We cs A M M' k k' ∧ l ≤ l' ∧ (l' : Int) ≤ l + b
def HW (cs : Nat → ClassId) (lim : Nat × Nat) (A : Ad) (σ : mSt) (N C F : Nat) (Lf : gMem → Nat → Int32 → Int32 → gMem) (Ls : gMem → Nat → Int32 → Int32 → Prop) (d : Nat) : Prop :=
  ∀ (M : gMem) (l k m : Nat) (x lv : Int32), m < N → x.toInt = m → Dp σ m ≤ d → 1 ≤ lv.toInt → lv.toInt + Dp σ m ≤ 41 → (l : Int) + 4 * Sz σ m ≤ 1602 → Wk cs lim A σ M N C F l k → Ls M A.co x lv ∧ Wb cs lim A σ N C F M l k (4 * Sz σ m - 2) (Lf M A.co x lv)
section
variable {cs : Nat → ClassId} {lim : Nat × Nat} {A : Ad} {σ : mSt} {N C R F T : Nat} {M : gMem} {l k : Nat} {Lf : gMem → Nat → Int32 → Int32 → gMem} {Ls : gMem → Nat → Int32 → Int32 → Prop} {d p fu : Nat} {x1 x2 x3 lv : Int32}
theorem co_scope (hW : HW cs lim A σ N C F Lf Ls d) (hp : p < N) (hx : x2.toInt = p) (hd : Dp σ p ≤ d) (hv : 1 ≤ lv.toInt) (hv2 : lv.toInt + 1 + Dp σ p ≤ 41) (dp1 : 1 ≤ Dp σ p) (sz1 : 1 ≤ Sz σ p) (hl : (l : Int) + 4 * Sz σ p ≤ 1600) (h : Wk cs lim A σ M N C F l k) : S_Co_writeScope cs lim fu Lf Ls M A.co x1 x2 lv ∧ Wb cs lim A σ N C F M l k (4 * Sz σ p) (F_Co_writeScope cs fu Lf M A.co x1 x2 lv) := by
  obtain ⟨s1, v1, k1, w1, e1⟩ := co_add h (x1 := 3) (x2 := x1) (by omega)
  unfold S_Co_writeScope F_Co_writeScope
  simp only [mbind_eq]
  generalize F_Co_add cs M A.co 3 x1 = r1 at v1 w1 e1 ⊢
  obtain ⟨s2, l2, k2, w2, e2, h2, h2'⟩ := hW r1.2 (l + 1) k1 p x2 (lv + 1) hp hx hd (by ((try (simp only [vp_in, Int32.toNatClampNeg, Int32.lt_iff_toInt_lt, Int32.le_iff_toInt_le, ← Int32.toInt_inj, Int32.toInt_add, Int32.toInt_sub, Int32.toInt_mul, Int32.reduceToInt, i32_neg1, Nat.reducePow, Int.reducePow, ne_eq, ge_iff_le, gt_iff_lt] at *)) <;> (first | omega | ((simp (disch := omega) only [bm32] at *) <;> omega)))) (by ((try (simp only [vp_in, Int32.toNatClampNeg, Int32.lt_iff_toInt_lt, Int32.le_iff_toInt_le, ← Int32.toInt_inj, Int32.toInt_add, Int32.toInt_sub, Int32.toInt_mul, Int32.reduceToInt, i32_neg1, Nat.reducePow, Int.reducePow, ne_eq, ge_iff_le, gt_iff_lt] at *)) <;> (first | omega | ((simp (disch := omega) only [bm32] at *) <;> omega)))) (by omega) w1
  generalize Lf r1.2 A.co x2 (lv + 1) = r2 at w2 e2 ⊢
  obtain ⟨s3, v3, k3, w3, e3⟩ := co_add w2 (x1 := 4) (x2 := x1) (by omega)
  generalize F_Co_add cs r2 A.co 4 x1 = r3 at v3 w3 e3 ⊢
  exact ⟨⟨h.lay.co_0.1, s1, w1.lay.co_0.1, s2, w2.lay.co_0.1, s3, trivial⟩, l2 + 1, k3, w3, (e1.trans h.lay.mok e2).trans h.lay.mok e3, by omega, by omega⟩
theorem co_body (hW : HW cs lim A σ N C F Lf Ls d) (hp : p < N) (hx : x1.toInt = p) (hd : Dp σ p ≤ d) (hv : 1 ≤ lv.toInt) (hv2 : lv.toInt + 1 + Dp σ p ≤ 41) (dp1 : 1 ≤ Dp σ p) (sz1 : 1 ≤ Sz σ p) (hl : (l : Int) + 4 * Sz σ p ≤ 1602) (h : Wk cs lim A σ M N C F l k) : S_Co_writeBody cs lim fu Lf Ls M A.co x1 lv ∧ Wb cs lim A σ N C F M l k (4 * Sz σ p - 1) (F_Co_writeBody cs fu Lf M A.co x1 lv) := by
  unfold S_Co_writeBody F_Co_writeBody
  simp only [mbind_eq]
  obtain ⟨s2, l2, k2, w2, e2, h2, h2'⟩ := hW M l k p x1 (lv + 1) hp hx hd (by ((try (simp only [vp_in, Int32.toNatClampNeg, Int32.lt_iff_toInt_lt, Int32.le_iff_toInt_le, ← Int32.toInt_inj, Int32.toInt_add, Int32.toInt_sub, Int32.toInt_mul, Int32.reduceToInt, i32_neg1, Nat.reducePow, Int.reducePow, ne_eq, ge_iff_le, gt_iff_lt] at *)) <;> (first | omega | ((simp (disch := omega) only [bm32] at *) <;> omega)))) (by ((try (simp only [vp_in, Int32.toNatClampNeg, Int32.lt_iff_toInt_lt, Int32.le_iff_toInt_le, ← Int32.toInt_inj, Int32.toInt_add, Int32.toInt_sub, Int32.toInt_mul, Int32.reduceToInt, i32_neg1, Nat.reducePow, Int.reducePow, ne_eq, ge_iff_le, gt_iff_lt] at *)) <;> (first | omega | ((simp (disch := omega) only [bm32] at *) <;> omega)))) (by omega) h
  generalize Lf M A.co x1 (lv + 1) = r2 at w2 e2 ⊢
  obtain ⟨s3, v3, k3, w3, e3⟩ := co_add w2 (x1 := 0) (x2 := 0) (by omega)
  generalize F_Co_add cs r2 A.co 0 0 = r3 at v3 w3 e3 ⊢
  exact ⟨⟨h.lay.co_0.1, s2, w2.lay.co_0.1, s3, trivial⟩, l2 + 1, k3, w3, e2.trans h.lay.mok e3, by omega, by omega⟩
theorem co_function (hW : HW cs lim A σ N C F Lf Ls d) {a : Nat} {v : Nat → Int32} (ha : NodeAt M a v) (hp : p < N) (hx : (v 4).toInt = p) (hd : Dp σ p ≤ d) (hv : 1 ≤ lv.toInt) (hv2 : lv.toInt + 1 + Dp σ p ≤ 41) (dp1 : 1 ≤ Dp σ p) (sz1 : 1 ≤ Sz σ p) (hl : (l : Int) + 4 * Sz σ p ≤ 1600) (h : Wk cs lim A σ M N C F l k) : S_Co_writeFunction cs lim fu Lf Ls M A.co (some a) lv ∧ Wb cs lim A σ N C F M l k (4 * Sz σ p) (F_Co_writeFunction cs fu Lf M A.co (some a) lv) := by
  unfold S_Co_writeFunction F_Co_writeFunction
  simp only [mbind_eq, Option.getD_some]
  obtain ⟨s1, v1, k1, w1, e1⟩ := co_add h (x1 := 8) (x2 := cI M a 2) (by omega)
  generalize F_Co_add cs M A.co 8 (cI M a 2) = r1 at v1 w1 e1 ⊢
  have ha1 := ha.ext e1.ext (by decide)
  obtain ⟨s2, k2, w2, e2⟩ := co_fill w1 (x1 := r1.1) (x2 := 2) (x3 := cI r1.2 a 3) v1 (by omega) (i := 2) rfl (by decide)
  generalize F_Co_fill cs r1.2 A.co r1.1 2 (cI r1.2 a 3) = r2 at w2 e2 ⊢
  have ha2 := ha1.ext e2.ext (by decide)
  have q4 : cI r2 a 4 = v 4 := ha2.2 4 (by decide)
  rw [q4]
  obtain ⟨s3, l3, k3, w3, e3, h3, h3'⟩ := co_body (fu := fu) hW hp hx hd hv hv2 dp1 sz1 (by omega) w2
  generalize F_Co_writeBody cs fu Lf r2 A.co (v 4) lv = r3 at w3 e3 ⊢
  obtain ⟨s4, k4, w4, e4⟩ := co_fill w3 (x1 := r1.1) (x2 := 3) (x3 := cI r3 A.co 2) v1 (by omega) (i := 3) rfl (by decide)
  generalize F_Co_fill cs r3 A.co r1.1 3 (cI r3 A.co 2) = r4 at w4 e4 ⊢
  exact ⟨⟨⟨a, rfl, ha.1⟩, h.lay.co_0.1, s1, ⟨a, rfl, ha1.1⟩, w1.lay.co_0.1, s2, ⟨a, rfl, ha2.1⟩, w2.lay.co_0.1, s3, w3.lay.co_0.1, w3.lay.co_0.1, s4, trivial⟩, l3, k4, w4, ((e1.trans h.lay.mok e2).trans h.lay.mok e3).trans h.lay.mok e4, by omega, by omega⟩
end
end
section
/-! pure rows, the class: a handle is written -/
section
variable {cs : Nat → ClassId} {lim : Nat × Nat} {A : Ad} {σ : mSt} {N C R F T : Nat} {M : gMem} {l k : Nat} {Lf : gMem → Nat → Int32 → Int32 → gMem} {Ls : gMem → Nat → Int32 → Int32 → Prop} {d p n a fu : Nat} {x1 x2 x3 lv : Int32}
/-- what is known of a handle's clauses -/
def HC (σ : mSt) (N C n : Nat) (lv : Int32) (d : Nat) (f0 mm : Nat) : Prop := (((σ.2.2.1) 14 n).toInt = f0) ∧ (((σ.2.2.1) 15 n).toInt = mm) ∧ (f0 + mm ≤ C) ∧ (C ≤ 40) ∧ (∀ j, j < mm → 0 ≤ ((σ.2.2.1) 19 (f0 + j)).toInt ∧ ((σ.2.2.1) 19 (f0 + j)).toInt.toNat < N ∧ Dp σ ((σ.2.2.1) 19 (f0 + j)).toInt.toNat ≤ d ∧ lv.toInt + 1 + Dp σ ((σ.2.2.1) 19 (f0 + j)).toInt.toNat ≤ 41 ∧ 1 ≤ Dp σ ((σ.2.2.1) 19 (f0 + j)).toInt.toNat ∧ 1 ≤ Sz σ ((σ.2.2.1) 19 (f0 + j)).toInt.toNat)
theorem HC.f {σ : mSt} {N C n : Nat} {lv : Int32} {d : Nat} {f0 mm : Nat} (self : HC σ N C n lv d f0 mm) : ((σ.2.2.1) 14 n).toInt = f0 := self.1
theorem HC.m {σ : mSt} {N C n : Nat} {lv : Int32} {d : Nat} {f0 mm : Nat} (self : HC σ N C n lv d f0 mm) : ((σ.2.2.1) 15 n).toInt = mm := self.2.1
theorem HC.le {σ : mSt} {N C n : Nat} {lv : Int32} {d : Nat} {f0 mm : Nat} (self : HC σ N C n lv d f0 mm) : f0 + mm ≤ C := self.2.2.1
theorem HC.c40 {σ : mSt} {N C n : Nat} {lv : Int32} {d : Nat} {f0 mm : Nat} (self : HC σ N C n lv d f0 mm) : C ≤ 40 := self.2.2.2.1
theorem HC.b {σ : mSt} {N C n : Nat} {lv : Int32} {d : Nat} {f0 mm : Nat} (self : HC σ N C n lv d f0 mm) : ∀ j, j < mm → 0 ≤ ((σ.2.2.1) 19 (f0 + j)).toInt ∧ ((σ.2.2.1) 19 (f0 + j)).toInt.toNat < N ∧ Dp σ ((σ.2.2.1) 19 (f0 + j)).toInt.toNat ≤ d ∧ lv.toInt + 1 + Dp σ ((σ.2.2.1) 19 (f0 + j)).toInt.toNat ≤ 41 ∧ 1 ≤ Dp σ ((σ.2.2.1) 19 (f0 + j)).toInt.toNat ∧ 1 ≤ Sz σ ((σ.2.2.1) 19 (f0 + j)).toInt.toNat := self.2.2.2.2
theorem csz_step {f0 j : Nat} : csz σ f0 (j + 1) = csz σ f0 j + Sz σ ((σ.2.2.1) 19 (f0 + j)).toInt.toNat := rfl
theorem csz_ge {f0 : Nat} : ∀ {m k : Nat}, k ≤ m → (∀ j, j < m → 1 ≤ Sz σ ((σ.2.2.1) 19 (f0 + j)).toInt.toNat) → (m : Int) - k ≤ csz σ f0 m - csz σ f0 k := by
  intro m
  induction m with
  | zero => intro k hk _; have : k = 0 := by omega
            subst this; omega
  | succ m ih =>
    intro k hk h
    by_cases e : k = m + 1
    · subst e; omega
    · have := ih (k := k) (by omega) (fun j hj => h j (by omega))
      have := h m (by omega)
      rw [csz_step]
      omega
theorem co_146 (hW : HW cs lim A σ N C F Lf Ls d) {f0 mm : Nat} (H : HC σ N C n lv d f0 mm) (hk : ((σ.2.2.1) 5 n).toInt = 8) (hv : 1 ≤ lv.toInt) {r0 : Nat} (hr : x3.toInt = r0) (hr2 : r0 + 1 + mm ≤ 1600) : ∀ (r j : Nat) (x4 : Int32) (fl : Nat) (M : gMem) (l k : Nat), mm - j = r → j ≤ mm → x4.toInt = (f0 + j : Nat) → r < fl → NodeAt M a (ndOf (σ.2.2.1) n) → Wk cs lim A σ M N C F l k → (l : Int) + 4 * (csz σ f0 mm - csz σ f0 j) - (mm - j) ≤ 1600 →
    S_Co_writeHandle_146 cs lim Lf Ls fl M A.co (some a) lv x3 x4 ∧ Wb cs lim A σ N C F M l k (4 * (csz σ f0 mm - csz σ f0 j) - (mm - j)) (F_Co_writeHandle_146 cs Lf fl M A.co (some a) lv x3 x4) := by
  have hf := H.f
  have hm := H.m
  have hle := H.le
  have h40 := H.c40
  have t8 : toOf (σ.2.2.1) n = (σ.2.2.1) 14 n + (σ.2.2.1) 15 n := by unfold toOf; rw [if_pos hk]
  have f7 : fromOf (σ.2.2.1) n = (σ.2.2.1) 14 n := by unfold fromOf; rw [if_pos hk]
  have e14 : ((σ.2.2.1) 14 n + (σ.2.2.1) 15 n).toInt = (f0 + mm : Nat) := by ((try (simp only [vp_in, Int32.toNatClampNeg, Int32.lt_iff_toInt_lt, Int32.le_iff_toInt_le, ← Int32.toInt_inj, Int32.toInt_add, Int32.toInt_sub, Int32.toInt_mul, Int32.reduceToInt, i32_neg1, Nat.reducePow, Int.reducePow, ne_eq, ge_iff_le, gt_iff_lt] at *)) <;> (first | omega | ((simp (disch := omega) only [bm32] at *) <;> omega)))
  intro r
  induction r with
  | zero =>
    intro j x4 fl M l k hr0 hj hx4 hfl ha h hl
    obtain ⟨fl, rfl⟩ : ∃ z, fl = z + 1 := ⟨fl - 1, by omega⟩
    simp only [S_Co_writeHandle_146, F_Co_writeHandle_146, mbind_eq, Option.getD_some]
    have q8 : cI M a 8 = toOf (σ.2.2.1) n := ha.2 8 (by decide)
    have hc : cI M a 8 ≤ x4 := by rw [q8, t8]; exact Int32.le_iff_toInt_le.mpr (by rw [e14, hx4]; omega)
    simp only [if_pos hc]
    obtain ⟨s1, k1, w1, e1⟩ := co_fill h (x1 := x3) (x2 := 1) (x3 := cI M A.co 2) hr (by omega) (i := 1) rfl (by decide)
    have : j = mm := by omega
    subst this
    exact ⟨⟨⟨a, rfl, ha.1⟩, h.lay.co_0.1, h.lay.co_0.1, s1, trivial⟩, l, k1, w1, e1, Nat.le_refl _, by omega⟩
  | succ r ih =>
    intro j x4 fl M l k hr0 hj hx4 hfl ha h hl
    obtain ⟨fl, rfl⟩ : ∃ z, fl = z + 1 := ⟨fl - 1, by omega⟩
    have hjm : j < mm := by omega
    obtain ⟨b1, b2, b3, b4, b5, b6⟩ := H.b j hjm
    have cm := csz_ge (σ := σ) (f0 := f0) (m := mm) (k := j + 1) (by omega) (fun i hi => (H.b i hi).2.2.2.2.2)
    rw [csz_step] at cm
    simp only [S_Co_writeHandle_146, F_Co_writeHandle_146, mbind_eq, Option.getD_some]
    have q8 : cI M a 8 = toOf (σ.2.2.1) n := ha.2 8 (by decide)
    have q7 : cI M a 7 = fromOf (σ.2.2.1) n := ha.2 7 (by decide)
    have hc : ¬ cI M a 8 ≤ x4 := fun z => by
      rw [q8, t8] at z
      have := Int32.le_iff_toInt_le.mp z
      rw [e14, hx4] at this
      omega
    simp only [if_neg hc]
    rw [q7, f7]
    have er : (x3 + 1 + x4 - (σ.2.2.1) 14 n).toInt = (r0 + 1 + j : Nat) := by clear hW ih H; ((try (simp only [vp_in, Int32.toNatClampNeg, Int32.lt_iff_toInt_lt, Int32.le_iff_toInt_le, ← Int32.toInt_inj, Int32.toInt_add, Int32.toInt_sub, Int32.toInt_mul, Int32.reduceToInt, i32_neg1, Nat.reducePow, Int.reducePow, ne_eq, ge_iff_le, gt_iff_lt] at *)) <;> (first | omega | ((simp (disch := omega) only [bm32] at *) <;> omega)))
    obtain ⟨s1, k1, w1, e1⟩ := co_fill h (x1 := x3 + 1 + x4 - (σ.2.2.1) 14 n) (x2 := 2) (x3 := cI M A.co 2) er (by omega) (i := 2) rfl (by decide)
    generalize F_Co_fill cs M A.co (x3 + 1 + x4 - (σ.2.2.1) 14 n) 2 (cI M A.co 2) = r1 at w1 e1 ⊢
    have hq0 : cQ r1 A.co 0 = some A.ns := w1.lay.co_0.2
    simp only [hq0, Option.getD_some]
    obtain ⟨s2, c, v2, -, hc2⟩ := ns_clauseAt (lim := lim) w1.lay w1.ns hx4 (by omega)
    simp only [v2, Option.getD_some]
    have q3 : cI r1 c 3 = cdOf (σ.2.2.1) (f0 + j) 3 := hc2.2 3 (by decide)
    rw [q3]
    have ecd : cdOf (σ.2.2.1) (f0 + j) 3 = (σ.2.2.1) 19 (f0 + j) := rfl
    rw [ecd]
    obtain ⟨s3, l3, k3, w3, e3, h3, h3'⟩ := co_body (fu := fl) hW b2 (x1 := (σ.2.2.1) 19 (f0 + j)) (by omega) b3 hv b4 b5 b6 (by omega) w1
    generalize F_Co_writeBody cs fl Lf r1 A.co ((σ.2.2.1) 19 (f0 + j)) lv = r3 at w3 e3 ⊢
    have ha1 := ha.ext e1.ext (by decide)
    have ha3 := ha1.ext e3.ext (by decide)
    have hx5 : (x4 + 1).toInt = (f0 + (j + 1) : Nat) := by clear hW ih H; ((try (simp only [vp_in, Int32.toNatClampNeg, Int32.lt_iff_toInt_lt, Int32.le_iff_toInt_le, ← Int32.toInt_inj, Int32.toInt_add, Int32.toInt_sub, Int32.toInt_mul, Int32.reduceToInt, i32_neg1, Nat.reducePow, Int.reducePow, ne_eq, ge_iff_le, gt_iff_lt] at *)) <;> (first | omega | ((simp (disch := omega) only [bm32] at *) <;> omega)))
    obtain ⟨s4, l4, k4, w4, e4, h4, h4'⟩ := ih (j + 1) (x4 + 1) fl r3 l3 k3 (by omega) (by omega) hx5 (by omega) ha3 w3 (by rw [csz_step]; omega)
    rw [csz_step] at h4'
    exact ⟨⟨⟨a, rfl, ha.1⟩, ⟨a, rfl, ha.1⟩, h.lay.co_0.1, h.lay.co_0.1, s1, w1.lay.co_0.1, ⟨_, rfl, w1.lay.ns_0.1⟩, s2, ⟨c, rfl, hc2.1⟩, w1.lay.co_0.1, s3, s4⟩, l4, k4, w4, (e1.trans h.lay.mok e3).trans h.lay.mok e4, by omega, by omega⟩
end
end
