-- pure rows: DB DC DD DE
section
/-! pure rows, the class: a type in the checker; if, fn (written by gen_db.py) -/
section
variable {cs : Nat → ClassId} {lim : Nat × Nat} {A : Ad} {σ : mSt} {N C R F T : Nat} {g4 : Nat → Int32} {k4 : Nat} {M : gMem} {τ : TT} {K : Nat} {g : Nat → Int}
variable {Lf : gMem → Nat → Int32 → Int32 → Int32 × gMem} {Ls : gMem → Nat → Int32 → Int32 → Prop} {d n a fu : Nat} {lv : Int32}
theorem number_pre {τ : TT} {x : Nat × Nat × Int32} : τ <+: (number τ x).2 ∧ (number τ x).2.length ≤ τ.length + 1 ∧ (number τ x).1 < 3 + (number τ x).2.length ∧ (∀ y ∈ (number τ x).2, y ∈ τ ∨ y = x) := by
  unfold number
  split
  · rename_i i h
    obtain ⟨h1, h2, -⟩ := find_some h
    exact ⟨List.prefix_refl _, Nat.le_succ _, by dsimp only; omega, fun y hy => Or.inl hy⟩
  · refine ⟨List.prefix_append _ _, by simp, by simp, fun y hy => ?_⟩
    simp only [List.mem_append, List.mem_singleton] at hy
    exact hy
theorem Sc.ext {M' : gMem} {τ' : TT} (h : Sc A M τ g) (L : Lay cs A M) {W V : List (Nat × Nat)} {al : Bool} (e : Ext W V al M M') (hV : V.contains (6, 4) = false) (hl : τ.length ≤ τ'.length) : Sc A M' τ' g := fun x hx => by
  rw [e.xaF L.sc.1 (L.sco.notV (by simpa using hV))]
  have := h x hx
  exact ⟨this.1, this.2.1, by omega⟩
theorem ck_number (h : (Cks cs lim A σ N C F T g4 k4) M τ K) (hlt : 3 + τ.length < 512) {x1 x2 x3 : Int32} {p q : Nat} (h1 : x1.toInt = p) (hp : p < 3 + τ.length) (h2 : x2.toInt = q) (hq : q < 3 + τ.length) (hb : Byte x3) (hf : 600 ≤ fu) :
    S_Ty_numberOf cs lim fu M A.ty x1 x2 x3 ∧ (F_Ty_numberOf cs fu M A.ty x1 x2 x3).1.toInt = (number τ (p, q, x3)).1 ∧ ∃ K', (Cks cs lim A σ N C F T g4 k4) (F_Ty_numberOf cs fu M A.ty x1 x2 x3).2 (number τ (p, q, x3)).2 K' ∧ Ext Wl Vl true M (F_Ty_numberOf cs fu M A.ty x1 x2 x3).2 ∧ Pot M (F_Ty_numberOf cs fu M A.ty x1 x2 x3).2 K K' ∧ (∀ g, Sc A M τ g → Sc A (F_Ty_numberOf cs fu M A.ty x1 x2 x3).2 (number τ (p, q, x3)).2 g) := by
  obtain ⟨s, v, K', q1, q2, q3, q4⟩ := ty_numberOf h.lay h.ty h.rm hlt h1 hp h2 hq (x3 := x3) hf
  obtain ⟨n1, n2, n3, n4⟩ := number_pre (τ := τ) (x := (p, q, x3))
  have e : Ext Wl Vl true M (F_Ty_numberOf cs fu M A.ty x1 x2 x3).2 := q2.mono (by decide) (by decide) (by decide)
  refine ⟨s, v, K', h.after e q1 (h.rm.pot q3) (fun y hy => ?_) (q4 _ _ h.c4) (Nat.le_trans h.tt (by have := n1.length_le; omega)), e, q3, fun g hg => hg.ext h.lay q2 (by decide) n1.length_le⟩
  rcases n4 y hy with z | z
  · exact h.rows y z
  · rw [z]; exact hb
theorem ck_choice (X : Ctx σ N C R T) (hL : HL cs lim A σ N C F T g4 k4 Lf Ls d) (hn : n < N) (hk : ((σ.2.2.1) 5 n).toInt = 6) (hd : Dp σ n ≤ d + 1) (hv : 1 ≤ lv.toInt) (hv2 : lv.toInt + Dp σ n ≤ 41) (hs : (τ.length : Int) + Sz σ n ≤ 500) (h : (Cks cs lim A σ N C F T g4 k4) M τ K) (sc : Sc A M τ g) (ha : NodeAt M a (ndOf (σ.2.2.1) n)) : S_Ck_lookChoice cs lim fu Lf Ls M A.ck (some a) lv ∧ (LOk cs lim A σ N C F T g4 k4) M τ g K n (F_Ck_lookChoice cs fu Lf M A.ck (some a) lv) := by
  have N0 := X.nok.nd n hn
  have nz := csz_nn X.nok hn (by omega)
  obtain ⟨pa1, pa2, pa3⟩ := part_of N0.pa (N0.ha (by show 4 ≤ ((σ.2.2.1) 5 n).toInt; omega))
  obtain ⟨pb1, pb2, pb3⟩ := part_of N0.pb (N0.hb (by show ((σ.2.2.1) 5 n).toInt = 4 ∨ ((σ.2.2.1) 5 n).toInt = 5 ∨ ((σ.2.2.1) 5 n).toInt = 6 ∨ ((σ.2.2.1) 5 n).toInt = 8 ∨ ((σ.2.2.1) 5 n).toInt = 9 ∨ ((σ.2.2.1) 5 n).toInt = 10; omega))
  obtain ⟨pc1, pc2, pc3⟩ := part_of N0.pc (N0.hc (by show ((σ.2.2.1) 5 n).toInt = 6; omega))
  have s2 := N0.s2 (by omega)
  rw [sz_of (N0.ha (by show 4 ≤ ((σ.2.2.1) 5 n).toInt; omega)), sz_of (N0.hb (by show ((σ.2.2.1) 5 n).toInt = 4 ∨ ((σ.2.2.1) 5 n).toInt = 5 ∨ ((σ.2.2.1) 5 n).toInt = 6 ∨ ((σ.2.2.1) 5 n).toInt = 8 ∨ ((σ.2.2.1) 5 n).toInt = 9 ∨ ((σ.2.2.1) 5 n).toInt = 10; omega)), sz_of (N0.hc (by show ((σ.2.2.1) 5 n).toInt = 6; omega))] at s2
  have szb := sz_nn X.nok hn N0.pb
  have szc := sz_nn X.nok hn N0.pc
  have dpn := N0.dp
  have dpa := (X.nok.nd _ (Nat.lt_trans pa2 hn)).dp
  have sa := (X.nok.nd _ (Nat.lt_trans pa2 hn)).s1
  have dpb := (X.nok.nd _ (Nat.lt_trans pb2 hn)).dp
  have sb := (X.nok.nd _ (Nat.lt_trans pb2 hn)).s1
  have dpc := (X.nok.nd _ (Nat.lt_trans pc2 hn)).dp
  have sc0 := (X.nok.nd _ (Nat.lt_trans pc2 hn)).s1
  have hev := ev_6 (A := (σ.2.2.1)) (tk := tks σ) (gv := gvs σ) (τ := τ) (g := g) hk pa2 pb2 pc2
  unfold S_Ck_lookChoice F_Ck_lookChoice
  simp only [Option.getD_some, mbind_eq]
  have f1 : cI M a 4 = (σ.2.2.1) 9 n := ha.2 4 (by decide)
  rw [f1]
  obtain ⟨s1, r1⟩ := hL M τ g K _ ((σ.2.2.1) 9 n) (lv + 1) (Nat.lt_trans pa2 hn) pa1 (by omega) (by ((try (simp only [vp_in, Int32.toNatClampNeg, Int32.lt_iff_toInt_lt, Int32.le_iff_toInt_le, ← Int32.toInt_inj, Int32.toInt_add, Int32.toInt_sub, Int32.toInt_mul, Int32.reduceToInt, i32_neg1, Nat.reducePow, Int.reducePow, ne_eq, ge_iff_le, gt_iff_lt] at *)) <;> (first | omega | ((simp (disch := omega) only [bm32] at *) <;> omega)))) (by ((try (simp only [vp_in, Int32.toNatClampNeg, Int32.lt_iff_toInt_lt, Int32.le_iff_toInt_le, ← Int32.toInt_inj, Int32.toInt_add, Int32.toInt_sub, Int32.toInt_mul, Int32.reduceToInt, i32_neg1, Nat.reducePow, Int.reducePow, ne_eq, ge_iff_le, gt_iff_lt] at *)) <;> (first | omega | ((simp (disch := omega) only [bm32] at *) <;> omega)))) (by omega) h sc
  generalize Lf M A.ck ((σ.2.2.1) 9 n) (lv + 1) = w1 at r1 ⊢
  obtain ⟨x1, r1⟩ := r1.split
  have ha1 := ha.ext x1 (by decide)
  have X1 := x1
  rcases r1 with ⟨hw1, t1, e1, τ1, K1, q1_1, q1_2, q1_3, q1_4, q1_5, q1_6, q1_7, q1_8, q1_9, q1_10⟩ | ⟨hw1, q1_1, τ1, K1, q1_2, q1_3, q1_4⟩
  · simp only [if_neg hw1]
    have hb1 : (F_Ck_typeIn cs w1.2 w1.1).toInt = (t1 : Nat) := q1_2
    by_cases c1 : F_Ck_typeIn cs w1.2 w1.1 = 1
    · simp only [if_pos c1]
      have d1 : t1 = 1 := by rw [c1] at hb1; have : (1 : Int32).toInt = 1 := rfl; omega
      have f2 : cI w1.2 a 5 = (σ.2.2.1) 10 n := ha1.2 5 (by decide)
      rw [f2]
      obtain ⟨s2_, r2⟩ := hL w1.2 τ1 g K1 _ ((σ.2.2.1) 10 n) (lv + 1) (Nat.lt_trans pb2 hn) pb1 (by omega) (by ((try (simp only [vp_in, Int32.toNatClampNeg, Int32.lt_iff_toInt_lt, Int32.le_iff_toInt_le, ← Int32.toInt_inj, Int32.toInt_add, Int32.toInt_sub, Int32.toInt_mul, Int32.reduceToInt, i32_neg1, Nat.reducePow, Int.reducePow, ne_eq, ge_iff_le, gt_iff_lt] at *)) <;> (first | omega | ((simp (disch := omega) only [bm32] at *) <;> omega)))) (by ((try (simp only [vp_in, Int32.toNatClampNeg, Int32.lt_iff_toInt_lt, Int32.le_iff_toInt_le, ← Int32.toInt_inj, Int32.toInt_add, Int32.toInt_sub, Int32.toInt_mul, Int32.reduceToInt, i32_neg1, Nat.reducePow, Int.reducePow, ne_eq, ge_iff_le, gt_iff_lt] at *)) <;> (first | omega | ((simp (disch := omega) only [bm32] at *) <;> omega)))) (by omega) q1_6 q1_8
      generalize Lf w1.2 A.ck ((σ.2.2.1) 10 n) (lv + 1) = w2 at r2 ⊢
      obtain ⟨x2, r2⟩ := r2.split
      have ha2 := ha1.ext x2 (by decide)
      have X2 : Ext Wl Vl true M w2.2 := X1.trans h.lay.mok x2
      rcases r2 with ⟨hw2, t2, e2, τ2, K2, q2_1, q2_2, q2_3, q2_4, q2_5, q2_6, q2_7, q2_8, q2_9, q2_10⟩ | ⟨hw2, q2_1, τ2, K2, q2_2, q2_3, q2_4⟩
      · simp only [if_neg hw2]
        have f3 : cI w2.2 a 6 = (σ.2.2.1) 11 n := ha2.2 6 (by decide)
        rw [f3]
        obtain ⟨s3, r3⟩ := hL w2.2 τ2 g K2 _ ((σ.2.2.1) 11 n) (lv + 1) (Nat.lt_trans pc2 hn) pc1 (by omega) (by ((try (simp only [vp_in, Int32.toNatClampNeg, Int32.lt_iff_toInt_lt, Int32.le_iff_toInt_le, ← Int32.toInt_inj, Int32.toInt_add, Int32.toInt_sub, Int32.toInt_mul, Int32.reduceToInt, i32_neg1, Nat.reducePow, Int.reducePow, ne_eq, ge_iff_le, gt_iff_lt] at *)) <;> (first | omega | ((simp (disch := omega) only [bm32] at *) <;> omega)))) (by ((try (simp only [vp_in, Int32.toNatClampNeg, Int32.lt_iff_toInt_lt, Int32.le_iff_toInt_le, ← Int32.toInt_inj, Int32.toInt_add, Int32.toInt_sub, Int32.toInt_mul, Int32.reduceToInt, i32_neg1, Nat.reducePow, Int.reducePow, ne_eq, ge_iff_le, gt_iff_lt] at *)) <;> (first | omega | ((simp (disch := omega) only [bm32] at *) <;> omega)))) (by omega) q2_6 q2_8
        generalize Lf w2.2 A.ck ((σ.2.2.1) 11 n) (lv + 1) = w3 at r3 ⊢
        obtain ⟨x3, r3⟩ := r3.split
        have ha3 := ha2.ext x3 (by decide)
        have X3 : Ext Wl Vl true M w3.2 := X2.trans h.lay.mok x3
        rcases r3 with ⟨hw3, t3, e3, τ3, K3, q3_1, q3_2, q3_3, q3_4, q3_5, q3_6, q3_7, q3_8, q3_9, q3_10⟩ | ⟨hw3, q3_1, τ3, K3, q3_2, q3_3, q3_4⟩
        · simp only [if_neg hw3]
          have hb2 : (F_Ck_typeIn cs w3.2 w2.1).toInt = (t2 : Nat) := q2_2
          have hb3 : (F_Ck_typeIn cs w3.2 w3.1).toInt = (t3 : Nat) := q3_2
          have hle : τ2.length ≤ τ3.length := q3_10.length_le
          by_cases c2 : F_Ck_typeIn cs w3.2 w3.1 = F_Ck_typeIn cs w3.2 w2.1
          · simp only [if_pos c2, F_Ck_seenAs, F_Ck_effectsIn, q1_3, q2_3, q3_3]
            have d2 : t3 = t2 := by rw [c2] at hb3; omega
            refine ⟨⟨⟨a, rfl, ha.1⟩, h.lay.ck_0.1, s1, trivial, ⟨a, rfl, ha1.1⟩, q1_6.lay.ck_0.1, s2_, ⟨a, rfl, ha2.1⟩, q2_6.lay.ck_0.1, s3, trivial, trivial, trivial, trivial, trivial, trivial, trivial, trivial⟩, ?_⟩
            refine LOk.good (t := t2) X3 hb2 ((q1_4.or q2_4).or q3_4) (by omega) ?_ q3_6 (q1_7.trans (q2_7.trans q3_7)) q3_8 (by omega) (q1_10.trans (q2_10.trans q3_10))
            rw [hev, q1_1]
            show (if t1 = 1 then _ else _) = _
            rw [if_pos d1]
            show Option.bind ((ev σ.2.2.1 (tks σ) (gvs σ)) τ1 _ _) _ = _
            rw [q2_1]
            show Option.bind ((ev σ.2.2.1 (tks σ) (gvs σ)) τ2 _ _) _ = _
            rw [q3_1]
            show (if t3 = t2 then _ else _) = _
            rw [if_pos d2]
          · simp only [if_neg c2]
            obtain ⟨sb1, vb, cb, xb, zb⟩ := ck_blame q3_6 6 (cI w3.2 a 6)
            rw [vb]
            refine ⟨⟨⟨a, rfl, ha.1⟩, h.lay.ck_0.1, s1, trivial, ⟨a, rfl, ha1.1⟩, q1_6.lay.ck_0.1, s2_, ⟨a, rfl, ha2.1⟩, q2_6.lay.ck_0.1, s3, trivial, trivial, ⟨a, rfl, ha3.1⟩, q3_6.lay.ck_0.1, sb1, trivial⟩, ?_⟩
            refine LOk.fail (X3.trans h.lay.mok xb) ?_ cb (q1_7.trans (q2_7.trans (q3_7.trans (Pot.light zb)))) (q1_10.trans (q2_10.trans q3_10))
            rw [hev, q1_1]
            show (if t1 = 1 then _ else _) = _
            rw [if_pos d1]
            show Option.bind ((ev σ.2.2.1 (tks σ) (gvs σ)) τ1 _ _) _ = _
            rw [q2_1]
            show Option.bind ((ev σ.2.2.1 (tks σ) (gvs σ)) τ2 _ _) _ = _
            rw [q3_1]
            show (if t3 = t2 then _ else _) = _
            rw [if_neg (fun z => c2 (Int32.toInt_inj.mp (by rw [hb2, hb3, z])))]
        · simp only [if_pos hw3]
          refine ⟨⟨⟨a, rfl, ha.1⟩, h.lay.ck_0.1, s1, trivial, ⟨a, rfl, ha1.1⟩, q1_6.lay.ck_0.1, s2_, ⟨a, rfl, ha2.1⟩, q2_6.lay.ck_0.1, s3, trivial⟩, LOk.fail X3 ?_ q3_2 (q1_7.trans (q2_7.trans q3_3)) (q1_10.trans (q2_10.trans q3_4))⟩
          rw [hev, q1_1]
          show (if t1 = 1 then _ else _) = _
          rw [if_pos d1]
          show Option.bind ((ev σ.2.2.1 (tks σ) (gvs σ)) τ1 _ _) _ = _
          rw [q2_1]
          show Option.bind ((ev σ.2.2.1 (tks σ) (gvs σ)) τ2 _ _) _ = _
          rw [q3_1]
          rfl
      · simp only [if_pos hw2, if_pos]
        refine ⟨⟨⟨a, rfl, ha.1⟩, h.lay.ck_0.1, s1, trivial, ⟨a, rfl, ha1.1⟩, q1_6.lay.ck_0.1, s2_, trivial⟩, LOk.fail X2 ?_ q2_2 (q1_7.trans q2_3) (q1_10.trans q2_4)⟩
        rw [hev, q1_1]
        show (if t1 = 1 then _ else _) = _
        rw [if_pos d1]
        show Option.bind ((ev σ.2.2.1 (tks σ) (gvs σ)) τ1 _ _) _ = _
        rw [q2_1]
        rfl
    · simp only [if_neg c1]
      obtain ⟨sb1, vb, cb, xb, zb⟩ := ck_blame q1_6 6 (cI w1.2 a 4)
      rw [vb]
      refine ⟨⟨⟨a, rfl, ha.1⟩, h.lay.ck_0.1, s1, trivial, ⟨a, rfl, ha1.1⟩, q1_6.lay.ck_0.1, sb1, trivial⟩, ?_⟩
      refine LOk.fail (X1.trans h.lay.mok xb) ?_ cb (q1_7.trans (Pot.light zb)) q1_10
      rw [hev, q1_1]
      show (if t1 = 1 then _ else _) = _
      rw [if_neg (fun z => c1 (Int32.toInt_inj.mp (by rw [hb1, z]; rfl)))]
  · simp only [if_pos hw1]
    exact ⟨⟨⟨a, rfl, ha.1⟩, h.lay.ck_0.1, s1, trivial⟩, LOk.fail X1 (by rw [hev, q1_1]; rfl) q1_2 q1_3 q1_4⟩
theorem ck_fn (X : Ctx σ N C R T) (hL : HL cs lim A σ N C F T g4 k4 Lf Ls d) (hn : n < N) (hk : ((σ.2.2.1) 5 n).toInt = 7) (hd : Dp σ n ≤ d + 1) (hv : 1 ≤ lv.toInt) (hv2 : lv.toInt + Dp σ n ≤ 41) (hs : (τ.length : Int) + Sz σ n ≤ 500) (h : (Cks cs lim A σ N C F T g4 k4) M τ K) (sc : Sc A M τ g) (ha : NodeAt M a (ndOf (σ.2.2.1) n)) (hf : 600 ≤ fu) : S_Ck_lookFn cs lim fu Lf Ls M A.ck (some a) lv ∧ (LOk cs lim A σ N C F T g4 k4) M τ g K n (F_Ck_lookFn cs fu Lf M A.ck (some a) lv) := by
  have N0 := X.nok.nd n hn
  have nz := csz_nn X.nok hn (by omega)
  obtain ⟨pa1, pa2, pa3⟩ := part_of N0.pa (N0.ha (by show 4 ≤ ((σ.2.2.1) 5 n).toInt; omega))
  have s2 := N0.s2 (by omega)
  rw [sz_of (N0.ha (by show 4 ≤ ((σ.2.2.1) 5 n).toInt; omega))] at s2
  have szb := sz_nn X.nok hn N0.pb
  have szc := sz_nn X.nok hn N0.pc
  have dpn := N0.dp
  have dpa := (X.nok.nd _ (Nat.lt_trans pa2 hn)).dp
  have sa := (X.nok.nd _ (Nat.lt_trans pa2 hn)).s1
  have hev := ev_7 (A := (σ.2.2.1)) (tk := tks σ) (gv := gvs σ) (τ := τ) (g := g) hk pa2
  unfold S_Ck_lookFn F_Ck_lookFn
  simp only [Option.getD_some, mbind_eq]
  have nmv : ndOf (σ.2.2.1) n 2 = (σ.2.2.1) 6 n := by show nameOf (σ.2.2.1) n = _; unfold nameOf; rw [if_pos (by omega)]
  have vlv : ndOf (σ.2.2.1) n 1 = (σ.2.2.1) 7 n := by show valOf (σ.2.2.1) n = _; unfold valOf; rw [if_neg (by omega), if_neg (by omega), if_pos (by omega)]
  obtain ⟨nm1, nm2⟩ := N0.nm (by show ((σ.2.2.1) 5 n).toInt = 3 ∨ ((σ.2.2.1) 5 n).toInt = 4 ∨ ((σ.2.2.1) 5 n).toInt = 5 ∨ ((σ.2.2.1) 5 n).toInt = 7 ∨ ((σ.2.2.1) 5 n).toInt = 8; omega)
  obtain ⟨fn1, fn2⟩ := N0.fn (by show ((σ.2.2.1) 5 n).toInt = 7; omega)
  have tt := h.tt
  have f2 : cI M a 2 = (σ.2.2.1) 6 n := by rw [ha.2 2 (by decide)]; exact nmv
  have f1 : cI M a 1 = (σ.2.2.1) 7 n := by rw [ha.2 1 (by decide)]; exact vlv
  rw [f2, f1]
  obtain ⟨s0, v0, c0, x0, z0, a0⟩ := ck_rename h (x := (σ.2.2.1) 6 n) (t := (σ.2.2.1) 7 n) (i := ((σ.2.2.1) 6 n).toInt.toNat) (by omega) (by omega)
  have scc := sc.xenv (τ' := τ) a0 (Nat.le_refl _) (by omega)
  generalize F_Ck_rename cs M A.ck ((σ.2.2.1) 6 n) ((σ.2.2.1) 7 n) = w0 at v0 c0 x0 z0 a0 scc ⊢
  have ha0 := ha.ext x0 (by decide)
  have f1_ : cI w0.2 a 4 = (σ.2.2.1) 9 n := ha0.2 4 (by decide)
  rw [f1_]
  obtain ⟨s1, r1⟩ := hL w0.2 τ _ K _ ((σ.2.2.1) 9 n) (lv + 1) (Nat.lt_trans pa2 hn) pa1 (by omega) (by ((try (simp only [vp_in, Int32.toNatClampNeg, Int32.lt_iff_toInt_lt, Int32.le_iff_toInt_le, ← Int32.toInt_inj, Int32.toInt_add, Int32.toInt_sub, Int32.toInt_mul, Int32.reduceToInt, i32_neg1, Nat.reducePow, Int.reducePow, ne_eq, ge_iff_le, gt_iff_lt] at *)) <;> (first | omega | ((simp (disch := omega) only [bm32] at *) <;> omega)))) (by ((try (simp only [vp_in, Int32.toNatClampNeg, Int32.lt_iff_toInt_lt, Int32.le_iff_toInt_le, ← Int32.toInt_inj, Int32.toInt_add, Int32.toInt_sub, Int32.toInt_mul, Int32.reduceToInt, i32_neg1, Nat.reducePow, Int.reducePow, ne_eq, ge_iff_le, gt_iff_lt] at *)) <;> (first | omega | ((simp (disch := omega) only [bm32] at *) <;> omega)))) (by omega) c0 scc
  generalize Lf w0.2 A.ck ((σ.2.2.1) 9 n) (lv + 1) = w1 at r1 ⊢
  obtain ⟨x1, r1⟩ := r1.split
  have ha1 := ha0.ext x1 (by decide)
  have X1 : Ext Wl Vl true M w1.2 := x0.trans h.lay.mok x1
  have nm' : cI w1.2 a 2 = (σ.2.2.1) 6 n := by rw [ha1.2 2 (by decide)]; exact nmv
  rw [nm']
  rcases r1 with ⟨hw1, t1, e1, τ1, K1, q1_1, q1_2, q1_3, q1_4, q1_5, q1_6, q1_7, q1_8, q1_9, q1_10⟩ | ⟨hw1, q1_1, τ1, K1, q1_2, q1_3, q1_4⟩
  · obtain ⟨s4, v4, c4, x4, z4, a4⟩ := ck_rename q1_6 (x := (σ.2.2.1) 6 n) (t := w0.1) (i := ((σ.2.2.1) 6 n).toInt.toNat) (by omega) (by omega)
    have g0 := sc ((σ.2.2.1) 6 n).toInt.toNat (by omega)
    have hle : τ.length ≤ τ1.length := q1_10.length_le
    generalize F_Ck_rename cs w1.2 A.ck ((σ.2.2.1) 6 n) w0.1 = w4 at v4 c4 x4 z4 a4 ⊢
    have sc4 := q1_8.xenv (τ' := τ1) a4 (Nat.le_refl _) (by rw [v0, g0.1]; omega)
    rw [v0, g0.1, env_back] at sc4
    have ha4 := ha1.ext x4 (by decide)
    have f1' : cI w4.2 a 1 = (σ.2.2.1) 7 n := by rw [ha4.2 1 (by decide)]; exact vlv
    simp only [if_neg hw1, f1', c4.lay.ck_1.2, Option.getD_some]
    have hb1 : (F_Ck_typeIn cs w4.2 w1.1).toInt = (t1 : Nat) := q1_2
    have he1 : F_Ck_effectsIn cs w4.2 w1.1 = e1 := q1_3
    rw [he1]
    obtain ⟨s5, v5, K5, c5, x5, p5, sc5⟩ := ck_number (fu := fu) c4 (by omega) (x1 := (σ.2.2.1) 7 n) (p := ((σ.2.2.1) 7 n).toInt.toNat) (by omega) (by omega) hb1 q1_5 q1_4 hf
    obtain ⟨n1, n2, n3, n4⟩ := number_pre (τ := τ1) (x := (((σ.2.2.1) 7 n).toInt.toNat, t1, e1))
    have sc6 := sc5 _ sc4
    generalize F_Ty_numberOf cs fu w4.2 A.ty ((σ.2.2.1) 7 n) (F_Ck_typeIn cs w4.2 w1.1) e1 = w5 at v5 c5 x5 p5 sc6 ⊢
    refine ⟨⟨⟨a, rfl, ha.1⟩, ⟨a, rfl, ha.1⟩, h.lay.ck_0.1, s0, ⟨a, rfl, ha0.1⟩, c0.lay.ck_0.1, s1, ⟨a, rfl, ha1.1⟩, q1_6.lay.ck_0.1, s4, c4.lay.ck_0.1, ⟨a, rfl, ha4.1⟩, trivial, trivial, ⟨_, rfl, c4.lay.ty_0.1⟩, s5, trivial, trivial⟩, ?_⟩
    refine LOk.good ((X1.trans h.lay.mok x4).trans h.lay.mok x5) v5 Byte.zero n3 ?_ c5 (((Pot.light z0).trans q1_7).trans ((Pot.light z4).trans p5)) sc6 (by omega) (q1_10.trans n1)
    rw [hev, q1_1]
    rfl
  · obtain ⟨s4, v4, c4, x4, z4, a4⟩ := ck_rename q1_2 (x := (σ.2.2.1) 6 n) (t := w0.1) (i := ((σ.2.2.1) 6 n).toInt.toNat) (by omega) (by omega)
    generalize F_Ck_rename cs w1.2 A.ck ((σ.2.2.1) 6 n) w0.1 = w4 at v4 c4 x4 z4 a4 ⊢
    simp only [if_pos hw1]
    exact ⟨⟨⟨a, rfl, ha.1⟩, ⟨a, rfl, ha.1⟩, h.lay.ck_0.1, s0, ⟨a, rfl, ha0.1⟩, c0.lay.ck_0.1, s1, ⟨a, rfl, ha1.1⟩, q1_2.lay.ck_0.1, s4, trivial⟩, LOk.fail (X1.trans h.lay.mok x4) (by rw [hev, q1_1]; rfl) c4 (((Pot.light z0).trans q1_3).trans (Pot.light z4)) q1_4⟩
end
end
section
/-! pure rows, the class: rec (written by gen_dc.py) -/
section
variable {cs : Nat → ClassId} {lim : Nat × Nat} {A : Ad} {σ : mSt} {N C R F T : Nat} {g4 : Nat → Int32} {k4 : Nat} {M : gMem} {τ : TT} {K : Nat} {g : Nat → Int}
variable {Lf : gMem → Nat → Int32 → Int32 → Int32 × gMem} {Ls : gMem → Nat → Int32 → Int32 → Prop} {d n a fu : Nat} {lv : Int32}
theorem ck_keeps (h : (Cks cs lim A σ N C F T g4 k4) M τ K) {x1 x2 x3 e : Int32} {f t : Nat} (h1 : x1.toInt = f) (h3 : 3 ≤ f) (hf : f < 3 + τ.length) (ht : (x3 / 256).toInt = (t : Nat)) (he : x3 &&& 255 = e) (htl : t < 3 + τ.length) : S_Ck_bodyKeepsTo cs lim M A.ck x1 x2 x3 ∧ (((F_Ck_bodyKeepsTo cs M A.ck x1 x2 x3).1 = 1 ∧ (F_Ck_bodyKeepsTo cs M A.ck x1 x2 x3).2 = M ∧ suit τ t (tR τ f) ∧ Within e (tW τ f)) ∨
    ((F_Ck_bodyKeepsTo cs M A.ck x1 x2 x3).1 = 0 ∧ ¬ (suit τ t (tR τ f) ∧ Within e (tW τ f)) ∧ (Cks cs lim A σ N C F T g4 k4) (F_Ck_bodyKeepsTo cs M A.ck x1 x2 x3).2 τ K ∧ Ext Wl Vl true M (F_Ck_bodyKeepsTo cs M A.ck x1 x2 x3).2 ∧ (F_Ck_bodyKeepsTo cs M A.ck x1 x2 x3).2.2 = M.2)) := by
  obtain ⟨⟨pa1, pa2⟩, ⟨pr1, pr2⟩, pw1, pw2⟩ := h.ty.parts (lim := lim) h.lay h1 h3 hf
  have wt := h.ty.wt f h3 hf
  have hb : (F_Ck_typeIn cs M x3).toInt = (t : Nat) := ht
  have he' : F_Ck_effectsIn cs M x3 = e := he
  obtain ⟨ss, vs⟩ := h.ty.suits (lim := lim) h.lay hb pr2 htl (by omega)
  have o1 : cOq 1 M (some A.ty) := ⟨_, rfl, h.lay.ty_0.1⟩
  unfold S_Ck_bodyKeepsTo F_Ck_bodyKeepsTo
  simp only [mbind_eq, h.lay.ck_1.2, Option.getD_some]
  rcases vs with ⟨ve, vq⟩ | ⟨ve, vq⟩
  · simp only [ve, if_neg (show ¬ (1 : Int32) = 0 by decide), he', pw2, F_N_isWithin, S_N_isWithin]
    by_cases hw : e &&& (tW τ f ^^^ -1) = 0
    · simp only [if_pos hw, if_neg (show ¬ (1 : Int32) = 0 by decide)]
      exact ⟨⟨h.lay.ck_0.1, trivial, h.lay.ck_0.1, o1, pr1, o1, ss, trivial, h.lay.ck_0.1, o1, pw1, trivial, trivial⟩, Or.inl ⟨trivial, trivial, vq, hw⟩⟩
    · obtain ⟨sb1, vb, cb, xb, zb⟩ := ck_blame h 7 x2
      simp only [if_neg hw, if_pos]
      exact ⟨⟨h.lay.ck_0.1, trivial, h.lay.ck_0.1, o1, pr1, o1, ss, trivial, h.lay.ck_0.1, o1, pw1, trivial, h.lay.ck_0.1, sb1, trivial⟩, Or.inr ⟨trivial, fun z => hw z.2, cb, xb, zb⟩⟩
  · obtain ⟨sb1, vb, cb, xb, zb⟩ := ck_blame h 6 x2
    simp only [ve, if_pos]
    exact ⟨⟨h.lay.ck_0.1, trivial, h.lay.ck_0.1, o1, pr1, o1, ss, h.lay.ck_0.1, sb1, trivial⟩, Or.inr ⟨trivial, fun z => vq z.1, cb, xb, zb⟩⟩
theorem ck_rec (X : Ctx σ N C R T) (hL : HL cs lim A σ N C F T g4 k4 Lf Ls d) (hn : n < N) (hk : ((σ.2.2.1) 5 n).toInt = 5) (hd : Dp σ n ≤ d + 1) (hv : 1 ≤ lv.toInt) (hv2 : lv.toInt + Dp σ n ≤ 41) (hs : (τ.length : Int) + Sz σ n ≤ 500) (h : (Cks cs lim A σ N C F T g4 k4) M τ K) (sc : Sc A M τ g) (ha : NodeAt M a (ndOf (σ.2.2.1) n)) : S_Ck_lookRec cs lim fu Lf Ls M A.ck (some a) lv ∧ (LOk cs lim A σ N C F T g4 k4) M τ g K n (F_Ck_lookRec cs fu Lf M A.ck (some a) lv) := by
  have N0 := X.nok.nd n hn
  have nz := csz_nn X.nok hn (by omega)
  obtain ⟨pa1, pa2, pa3⟩ := part_of N0.pa (N0.ha (by show 4 ≤ ((σ.2.2.1) 5 n).toInt; omega))
  obtain ⟨pb1, pb2, pb3⟩ := part_of N0.pb (N0.hb (by show ((σ.2.2.1) 5 n).toInt = 4 ∨ ((σ.2.2.1) 5 n).toInt = 5 ∨ ((σ.2.2.1) 5 n).toInt = 6 ∨ ((σ.2.2.1) 5 n).toInt = 8 ∨ ((σ.2.2.1) 5 n).toInt = 9 ∨ ((σ.2.2.1) 5 n).toInt = 10; omega))
  have s2 := N0.s2 (by omega)
  rw [sz_of (N0.ha (by show 4 ≤ ((σ.2.2.1) 5 n).toInt; omega)), sz_of (N0.hb (by show ((σ.2.2.1) 5 n).toInt = 4 ∨ ((σ.2.2.1) 5 n).toInt = 5 ∨ ((σ.2.2.1) 5 n).toInt = 6 ∨ ((σ.2.2.1) 5 n).toInt = 8 ∨ ((σ.2.2.1) 5 n).toInt = 9 ∨ ((σ.2.2.1) 5 n).toInt = 10; omega))] at s2
  have szb := sz_nn X.nok hn N0.pb
  have szc := sz_nn X.nok hn N0.pc
  have dpn := N0.dp
  have dpa := (X.nok.nd _ (Nat.lt_trans pa2 hn)).dp
  have sa := (X.nok.nd _ (Nat.lt_trans pa2 hn)).s1
  have dpb := (X.nok.nd _ (Nat.lt_trans pb2 hn)).dp
  have sb := (X.nok.nd _ (Nat.lt_trans pb2 hn)).s1
  have hev := ev_5 (A := (σ.2.2.1)) (tk := tks σ) (gv := gvs σ) (τ := τ) (g := g) hk pa2 pb2
  unfold S_Ck_lookRec F_Ck_lookRec
  simp only [Option.getD_some, mbind_eq]
  have nmv : ndOf (σ.2.2.1) n 2 = (σ.2.2.1) 7 n := by show nameOf (σ.2.2.1) n = _; unfold nameOf; rw [if_neg (by omega), if_pos (by omega)]
  have vlv : ndOf (σ.2.2.1) n 1 = (σ.2.2.1) 8 n := by show valOf (σ.2.2.1) n = _; unfold valOf; rw [if_neg (by omega), if_pos (by omega)]
  have owv : ndOf (σ.2.2.1) n 3 = (σ.2.2.1) 6 n := by show ownOf (σ.2.2.1) n = _; unfold ownOf; rw [if_pos (by omega)]
  obtain ⟨nm1, nm2⟩ := N0.nm (by show ((σ.2.2.1) 5 n).toInt = 3 ∨ ((σ.2.2.1) 5 n).toInt = 4 ∨ ((σ.2.2.1) 5 n).toInt = 5 ∨ ((σ.2.2.1) 5 n).toInt = 7 ∨ ((σ.2.2.1) 5 n).toInt = 8; omega)
  obtain ⟨⟨rc1, rc2⟩, rc3, rc4⟩ := N0.rc (by show ((σ.2.2.1) 5 n).toInt = 5; omega)
  have tt := h.tt
  have i8 : ((σ.2.2.1) 8 n).toInt = (((σ.2.2.1) 8 n).toInt.toNat : Nat) := by omega
  have f3 : cI M a 3 = (σ.2.2.1) 6 n := by rw [ha.2 3 (by decide)]; exact owv
  have f1 : cI M a 1 = (σ.2.2.1) 8 n := by rw [ha.2 1 (by decide)]; exact vlv
  rw [f3, f1]
  obtain ⟨s0, v0, c0, x0, z0, a0⟩ := ck_rename h (x := (σ.2.2.1) 6 n) (t := (σ.2.2.1) 8 n) (i := ((σ.2.2.1) 6 n).toInt.toNat) (by omega) (by omega)
  have sc0' := sc.xenv (τ' := τ) a0 (Nat.le_refl _) (by omega)
  generalize F_Ck_rename cs M A.ck ((σ.2.2.1) 6 n) ((σ.2.2.1) 8 n) = w0 at v0 c0 x0 z0 a0 sc0' ⊢
  have sc0_ : Sc A w0.2 τ (env g ((σ.2.2.1) 6 n).toInt.toNat (((σ.2.2.1) 8 n).toInt.toNat : Nat)) := by rw [← i8]; exact sc0'
  have ha0 := ha.ext x0 (by decide)
  obtain ⟨⟨pp1, pp2⟩, -⟩ := c0.ty.parts (lim := lim) c0.lay i8 (by omega) (by omega)
  have wt := c0.ty.wt ((σ.2.2.1) 8 n).toInt.toNat (by omega) (by omega)
  have f2 : cI w0.2 a 2 = (σ.2.2.1) 7 n := by rw [ha0.2 2 (by decide)]; exact nmv
  have o0 : cOq 1 w0.2 (some A.ty) := ⟨_, rfl, c0.lay.ty_0.1⟩
  simp only [c0.lay.ck_1.2, Option.getD_some, f2]
  obtain ⟨s9, v9, c9, x9, z9, a9⟩ := ck_rename c0 (x := (σ.2.2.1) 7 n) (t := F_Ty_argumentOf cs w0.2 A.ty ((σ.2.2.1) 8 n)) (i := ((σ.2.2.1) 7 n).toInt.toNat) (by omega) (by omega)
  have sc9 := sc0_.xenv (τ' := τ) a9 (Nat.le_refl _) (by rw [pp2]; omega)
  rw [pp2] at sc9
  generalize F_Ck_rename cs w0.2 A.ck ((σ.2.2.1) 7 n) (F_Ty_argumentOf cs w0.2 A.ty ((σ.2.2.1) 8 n)) = w9 at v9 c9 x9 z9 a9 sc9 ⊢
  have ha9 := ha0.ext x9 (by decide)
  have X9 : Ext Wl Vl true M w9.2 := x0.trans h.lay.mok x9
  have f1_ : cI w9.2 a 4 = (σ.2.2.1) 9 n := ha9.2 4 (by decide)
  rw [f1_]
  obtain ⟨s1, r1⟩ := hL w9.2 τ _ K _ ((σ.2.2.1) 9 n) (lv + 1) (Nat.lt_trans pa2 hn) pa1 (by omega) (by ((try (simp only [vp_in, Int32.toNatClampNeg, Int32.lt_iff_toInt_lt, Int32.le_iff_toInt_le, ← Int32.toInt_inj, Int32.toInt_add, Int32.toInt_sub, Int32.toInt_mul, Int32.reduceToInt, i32_neg1, Nat.reducePow, Int.reducePow, ne_eq, ge_iff_le, gt_iff_lt] at *)) <;> (first | omega | ((simp (disch := omega) only [bm32] at *) <;> omega)))) (by ((try (simp only [vp_in, Int32.toNatClampNeg, Int32.lt_iff_toInt_lt, Int32.le_iff_toInt_le, ← Int32.toInt_inj, Int32.toInt_add, Int32.toInt_sub, Int32.toInt_mul, Int32.reduceToInt, i32_neg1, Nat.reducePow, Int.reducePow, ne_eq, ge_iff_le, gt_iff_lt] at *)) <;> (first | omega | ((simp (disch := omega) only [bm32] at *) <;> omega)))) (by omega) c9 sc9
  generalize Lf w9.2 A.ck ((σ.2.2.1) 9 n) (lv + 1) = w1 at r1 ⊢
  obtain ⟨x1, r1⟩ := r1.split
  have ha1 := ha9.ext x1 (by decide)
  have X1 : Ext Wl Vl true M w1.2 := X9.trans h.lay.mok x1
  have nm' : cI w1.2 a 2 = (σ.2.2.1) 7 n := by rw [ha1.2 2 (by decide)]; exact nmv
  rw [nm']
  rcases r1 with ⟨hw1, t1, e1, τ1, K1, q1_1, q1_2, q1_3, q1_4, q1_5, q1_6, q1_7, q1_8, q1_9, q1_10⟩ | ⟨hw1, q1_1, τ1, K1, q1_2, q1_3, q1_4⟩
  · obtain ⟨s4, v4, c4, x4, z4, a4⟩ := ck_rename q1_6 (x := (σ.2.2.1) 7 n) (t := w9.1) (i := ((σ.2.2.1) 7 n).toInt.toNat) (by omega) (by omega)
    have g0 := sc0_ ((σ.2.2.1) 7 n).toInt.toNat (by omega)
    have hle : τ.length ≤ τ1.length := q1_10.length_le
    generalize F_Ck_rename cs w1.2 A.ck ((σ.2.2.1) 7 n) w9.1 = w4 at v4 c4 x4 z4 a4 ⊢
    have sc4 := q1_8.xenv (τ' := τ1) a4 (Nat.le_refl _) (by rw [v9, g0.1]; omega)
    rw [v9, g0.1, env_back] at sc4
    have ha4 := ha1.ext x4 (by decide)
    have X4 := X1.trans h.lay.mok x4
    simp only [if_neg hw1]
    have f4' : cI w4.2 a 4 = (σ.2.2.1) 9 n := ha4.2 4 (by decide)
    rw [f4']
    obtain ⟨s5, r5⟩ := ck_keeps c4 (x1 := (σ.2.2.1) 8 n) (x2 := (σ.2.2.1) 9 n) (x3 := w1.1) i8 (by omega) (by omega) q1_2 q1_3 q1_5
    have P4 : Pot M w4.2 K K1 := (((Pot.light z0).trans (Pot.light z9)).trans q1_7).trans (Pot.light z4)
    rcases r5 with ⟨k1, k2, k3, k4'⟩ | ⟨k1, k2, k3, k4', k5⟩
    · generalize F_Ck_bodyKeepsTo cs w4.2 A.ck ((σ.2.2.1) 8 n) ((σ.2.2.1) 9 n) w1.1 = w5 at k1 k2 ⊢
      obtain ⟨v5, M5⟩ := w5
      dsimp only at k1 k2 ⊢
      subst k1 k2
      simp only [if_neg (show ¬ (1 : Int32) = 0 by decide)]
      have f2 : cI w4.2 a 5 = (σ.2.2.1) 10 n := ha4.2 5 (by decide)
      rw [f2]
      obtain ⟨s2_, r2⟩ := hL w4.2 τ1 _ K1 _ ((σ.2.2.1) 10 n) (lv + 1) (Nat.lt_trans pb2 hn) pb1 (by omega) (by ((try (simp only [vp_in, Int32.toNatClampNeg, Int32.lt_iff_toInt_lt, Int32.le_iff_toInt_le, ← Int32.toInt_inj, Int32.toInt_add, Int32.toInt_sub, Int32.toInt_mul, Int32.reduceToInt, i32_neg1, Nat.reducePow, Int.reducePow, ne_eq, ge_iff_le, gt_iff_lt] at *)) <;> (first | omega | ((simp (disch := omega) only [bm32] at *) <;> omega)))) (by ((try (simp only [vp_in, Int32.toNatClampNeg, Int32.lt_iff_toInt_lt, Int32.le_iff_toInt_le, ← Int32.toInt_inj, Int32.toInt_add, Int32.toInt_sub, Int32.toInt_mul, Int32.reduceToInt, i32_neg1, Nat.reducePow, Int.reducePow, ne_eq, ge_iff_le, gt_iff_lt] at *)) <;> (first | omega | ((simp (disch := omega) only [bm32] at *) <;> omega)))) (by omega) c4 sc4
      generalize Lf w4.2 A.ck ((σ.2.2.1) 10 n) (lv + 1) = w2 at r2 ⊢
      have r2' := r2
      obtain ⟨x2, r2⟩ := r2.split
      have ha2 := ha4.ext x2 (by decide)
      have X2 : Ext Wl Vl true M w2.2 := X4.trans h.lay.mok x2
      rcases r2 with ⟨hw2, t2, e2, τ2, K2, q2_1, q2_2, q2_3, q2_4, q2_5, q2_6, q2_7, q2_8, q2_9, q2_10⟩ | ⟨hw2, q2_1, τ2, K2, q2_2, q2_3, q2_4⟩
      · have ow' : cI w2.2 a 3 = (σ.2.2.1) 6 n := by rw [ha2.2 3 (by decide)]; exact owv
        rw [ow']
        obtain ⟨s6, v6, c6, x6, z6, a6⟩ := ck_rename q2_6 (x := (σ.2.2.1) 6 n) (t := w0.1) (i := ((σ.2.2.1) 6 n).toInt.toNat) (by omega) (by omega)
        have g1 := sc ((σ.2.2.1) 6 n).toInt.toNat (by omega)
        have hle2 : τ1.length ≤ τ2.length := q2_10.length_le
        generalize F_Ck_rename cs w2.2 A.ck ((σ.2.2.1) 6 n) w0.1 = w6 at v6 c6 x6 z6 a6 ⊢
        have sc6 := q2_8.xenv (τ' := τ2) a6 (Nat.le_refl _) (by rw [v0, g1.1]; omega)
        rw [v0, g1.1, env_back] at sc6
        refine ⟨⟨⟨a, rfl, ha.1⟩, ⟨a, rfl, ha.1⟩, h.lay.ck_0.1, s0, ⟨a, rfl, ha0.1⟩, c0.lay.ck_0.1, o0, pp1, c0.lay.ck_0.1, s9, ⟨a, rfl, ha9.1⟩, c9.lay.ck_0.1, s1, ⟨a, rfl, ha1.1⟩, q1_6.lay.ck_0.1, s4, ⟨a, rfl, ha4.1⟩, c4.lay.ck_0.1, s5, ⟨a, rfl, ha4.1⟩, c4.lay.ck_0.1, s2_, ⟨a, rfl, ha2.1⟩, q2_6.lay.ck_0.1, s6, trivial⟩, X2.trans h.lay.mok x6, Or.inl ⟨t2, e2, τ2, K2, ?_, ?_, q2_4, q2_5, c6, (P4.trans q2_7).trans (Pot.light z6), sc6, by omega, q1_10.trans q2_10⟩⟩
        · rw [hev, q1_1]
          simp only [Option.bind_some]
          rw [if_pos ⟨k3, k4'⟩]
          exact q2_1
        · show w2.1.toInt = _
          rcases r2'.2 with ⟨t', e', τ', K', y1, y2, -⟩ | ⟨y1, -⟩
          · rw [q2_1] at y1
            cases y1
            exact y2
          · rw [q2_1] at y1
            cases y1
      · have ow' : cI w2.2 a 3 = (σ.2.2.1) 6 n := by rw [ha2.2 3 (by decide)]; exact owv
        rw [ow']
        obtain ⟨s6, v6, c6, x6, z6, a6⟩ := ck_rename q2_2 (x := (σ.2.2.1) 6 n) (t := w0.1) (i := ((σ.2.2.1) 6 n).toInt.toNat) (by omega) (by omega)
        generalize F_Ck_rename cs w2.2 A.ck ((σ.2.2.1) 6 n) w0.1 = w6 at v6 c6 x6 z6 a6 ⊢
        refine ⟨⟨⟨a, rfl, ha.1⟩, ⟨a, rfl, ha.1⟩, h.lay.ck_0.1, s0, ⟨a, rfl, ha0.1⟩, c0.lay.ck_0.1, o0, pp1, c0.lay.ck_0.1, s9, ⟨a, rfl, ha9.1⟩, c9.lay.ck_0.1, s1, ⟨a, rfl, ha1.1⟩, q1_6.lay.ck_0.1, s4, ⟨a, rfl, ha4.1⟩, c4.lay.ck_0.1, s5, ⟨a, rfl, ha4.1⟩, c4.lay.ck_0.1, s2_, ⟨a, rfl, ha2.1⟩, q2_2.lay.ck_0.1, s6, trivial⟩, ?_⟩
        rw [hw2]
        refine LOk.fail (X2.trans h.lay.mok x6) ?_ c6 ((P4.trans q2_3).trans (Pot.light z6)) (q1_10.trans q2_4)
        rw [hev, q1_1]
        simp only [Option.bind_some]
        rw [if_pos ⟨k3, k4'⟩]
        exact q2_1
    · generalize F_Ck_bodyKeepsTo cs w4.2 A.ck ((σ.2.2.1) 8 n) ((σ.2.2.1) 9 n) w1.1 = w5 at k1 k3 k4' k5 ⊢
      simp only [k1, if_pos]
      have ha5 := ha4.ext k4' (by decide)
      have ow' : cI w5.2 a 3 = (σ.2.2.1) 6 n := by rw [ha5.2 3 (by decide)]; exact owv
      rw [ow']
      obtain ⟨s6, v6, c6, x6, z6, a6⟩ := ck_rename k3 (x := (σ.2.2.1) 6 n) (t := w0.1) (i := ((σ.2.2.1) 6 n).toInt.toNat) (by omega) (by omega)
      generalize F_Ck_rename cs w5.2 A.ck ((σ.2.2.1) 6 n) w0.1 = w6 at v6 c6 x6 z6 a6 ⊢
      refine ⟨⟨⟨a, rfl, ha.1⟩, ⟨a, rfl, ha.1⟩, h.lay.ck_0.1, s0, ⟨a, rfl, ha0.1⟩, c0.lay.ck_0.1, o0, pp1, c0.lay.ck_0.1, s9, ⟨a, rfl, ha9.1⟩, c9.lay.ck_0.1, s1, ⟨a, rfl, ha1.1⟩, q1_6.lay.ck_0.1, s4, ⟨a, rfl, ha4.1⟩, c4.lay.ck_0.1, s5, ⟨a, rfl, ha5.1⟩, k3.lay.ck_0.1, s6, trivial⟩, ?_⟩
      refine LOk.fail ((X4.trans h.lay.mok k4').trans h.lay.mok x6) ?_ c6 ((P4.trans (Pot.light k5)).trans (Pot.light z6)) q1_10
      rw [hev, q1_1]
      simp only [Option.bind_some]
      rw [if_neg k2]
  · obtain ⟨s4, v4, c4, x4, z4, a4⟩ := ck_rename q1_2 (x := (σ.2.2.1) 7 n) (t := w9.1) (i := ((σ.2.2.1) 7 n).toInt.toNat) (by omega) (by omega)
    generalize F_Ck_rename cs w1.2 A.ck ((σ.2.2.1) 7 n) w9.1 = w4 at v4 c4 x4 z4 a4 ⊢
    have ha4 := ha1.ext x4 (by decide)
    simp only [if_pos hw1]
    have ow' : cI w4.2 a 3 = (σ.2.2.1) 6 n := by rw [ha4.2 3 (by decide)]; exact owv
    rw [ow']
    obtain ⟨s6, v6, c6, x6, z6, a6⟩ := ck_rename c4 (x := (σ.2.2.1) 6 n) (t := w0.1) (i := ((σ.2.2.1) 6 n).toInt.toNat) (by omega) (by omega)
    generalize F_Ck_rename cs w4.2 A.ck ((σ.2.2.1) 6 n) w0.1 = w6 at v6 c6 x6 z6 a6 ⊢
    exact ⟨⟨⟨a, rfl, ha.1⟩, ⟨a, rfl, ha.1⟩, h.lay.ck_0.1, s0, ⟨a, rfl, ha0.1⟩, c0.lay.ck_0.1, o0, pp1, c0.lay.ck_0.1, s9, ⟨a, rfl, ha9.1⟩, c9.lay.ck_0.1, s1, ⟨a, rfl, ha1.1⟩, q1_2.lay.ck_0.1, s4, ⟨a, rfl, ha4.1⟩, c4.lay.ck_0.1, s6, trivial⟩, LOk.fail ((X1.trans h.lay.mok x4).trans h.lay.mok x6) (by rw [hev, q1_1]; rfl) c6 (((((Pot.light z0).trans (Pot.light z9)).trans q1_3).trans (Pot.light z4)).trans (Pot.light z6)) q1_4⟩
end
end
section
/-! pure rows, the class: a clause (written by gen_dd.py) -/
section
variable {cs : Nat → ClassId} {lim : Nat × Nat} {A : Ad} {σ : mSt} {N C R F T : Nat} {g4 : Nat → Int32} {k4 : Nat} {M : gMem} {τ : TT} {K : Nat} {g : Nat → Int}
variable {Lf : gMem → Nat → Int32 → Int32 → Int32 × gMem} {Ls : gMem → Nat → Int32 → Int32 → Prop} {d n a fu : Nat} {lv : Int32}
theorem bit_0 (w x : Int32) {i : Nat} (h : x.toInt = i) (hi : i < 32) : w &&& ((1 : Int32) <<< (x &&& 31)) = 0 ↔ ¬ Bit w i := by
  unfold Bit
  rw [← Int32.toBitVec_inj, Int32.toBitVec_and, shl_bv x h hi]
  show w.toBitVec &&& (1#32 <<< i) = 0#32 ↔ _
  constructor
  · intro z q
    have := congrArg (fun b => b.getLsbD i) z
    simp only [BitVec.getLsbD_and, q] at this
    simp [hi] at this
  · intro z
    ext j hj
    rw [BitVec.getElem_and, BitVec.getElem_shiftLeft]
    simp only [BitVec.getElem_zero, Bool.and_eq_false_iff]
    by_cases hji : j = i
    · subst hji
      left
      rw [← BitVec.getLsbD_eq_getElem]
      simpa using z
    · right
      by_cases hlt : j < i
      · simp [hlt]
      · simp [hlt]
        omega
theorem and_or_not (e x b : Int32) : e &&& ((x ||| b) ^^^ (-1)) = (e &&& (x ^^^ (-1))) &&& (b ^^^ (-1)) := by
  apply Int32.toBitVec_inj.mp
  simp only [Int32.toBitVec_and, Int32.toBitVec_or, Int32.toBitVec_xor]
  ext i hi
  simp only [BitVec.getElem_and, BitVec.getElem_or, BitVec.getElem_xor]
  have : ((-1 : Int32).toBitVec)[i] = true := by revert hi; revert i; decide
  rw [this]
  cases (e.toBitVec)[i] <;> cases (x.toBitVec)[i] <;> cases (b.toBitVec)[i] <;> rfl
theorem csz_mono {σ : mSt} {f : Nat} : ∀ {m k : Nat}, k ≤ m → (∀ j, j < m → 0 ≤ Sz σ (σ.2.2.1 19 (f + j)).toInt.toNat) → csz σ f k ≤ csz σ f m := by
  intro m
  induction m with
  | zero => intro k hk _; have : k = 0 := by omega
            subst this; exact Int.le_refl _
  | succ m ih =>
    intro k hk h
    by_cases hkm : k = m + 1
    · subst hkm; exact Int.le_refl _
    · have := ih (k := k) (by omega) (fun j hj => h j (by omega))
      have := h m (by omega)
      simp only [csz]
      omega
/-- the clause's own environment -/
def cEnv (σ : mSt) (τ : TT) (g : Nat → Int) (n q ct : Nat) : Nat → Int := env (env g (σ.2.2.1 17 q).toInt.toNat (tks σ (σ.2.2.1 16 q).toInt.toNat)) (σ.2.2.1 18 q).toInt.toNat (number τ (gvs σ (σ.2.2.1 16 q).toInt.toNat, ct, σ.2.2.1 7 n)).1
theorem ck_clause (X : Ctx σ N C R T) (hL : HL cs lim A σ N C F T g4 k4 Lf Ls d) (hf : 600 ≤ fu) {q ct b : Nat} {x2 x3 : Int32} (hq : q < C) (hx2 : x2.toInt = ct) (hct : ct < 3 + τ.length) (hx3 : x3 = (σ.2.2.1) 7 n) (hb3 : Byte x3) (hdp : Dp σ ((σ.2.2.1) 19 q).toInt.toNat ≤ d) (hv : 1 ≤ lv.toInt) (hv2 : lv.toInt + 1 + Dp σ ((σ.2.2.1) 19 q).toInt.toNat ≤ 41) (hs : (τ.length : Int) + 1 + Sz σ ((σ.2.2.1) 19 q).toInt.toNat ≤ 500) (h : (Cks cs lim A σ N C F T g4 k4) M τ K) (sc : Sc A M τ g) (hcl : ClauseAt M b (cdOf (σ.2.2.1) q)) :
    S_Ck_clauseKeepsTo cs lim fu Lf Ls M A.ck (some b) x2 x3 lv ∧ Ext Wl Vl true M (F_Ck_clauseKeepsTo cs fu Lf M A.ck (some b) x2 x3 lv).2 ∧
      ((∃ t e τ' K', (ev σ.2.2.1 (tks σ) (gvs σ)) (number τ (gvs σ ((σ.2.2.1) 16 q).toInt.toNat, ct, (σ.2.2.1) 7 n)).2 (cEnv σ τ g n q ct) ((σ.2.2.1) 19 q).toInt.toNat = some (t, e, τ') ∧ suit τ' t ct ∧ Within e ((σ.2.2.1) 7 n) ∧ (F_Ck_clauseKeepsTo cs fu Lf M A.ck (some b) x2 x3 lv).1 = 1 ∧ (Cks cs lim A σ N C F T g4 k4) (F_Ck_clauseKeepsTo cs fu Lf M A.ck (some b) x2 x3 lv).2 τ' K' ∧ Pot M (F_Ck_clauseKeepsTo cs fu Lf M A.ck (some b) x2 x3 lv).2 K K' ∧ Sc A (F_Ck_clauseKeepsTo cs fu Lf M A.ck (some b) x2 x3 lv).2 τ' g ∧ (τ'.length : Int) ≤ τ.length + Sz σ ((σ.2.2.1) 19 q).toInt.toNat ∧ τ <+: τ') ∨
       ((∀ t e τ', (ev σ.2.2.1 (tks σ) (gvs σ)) (number τ (gvs σ ((σ.2.2.1) 16 q).toInt.toNat, ct, (σ.2.2.1) 7 n)).2 (cEnv σ τ g n q ct) ((σ.2.2.1) 19 q).toInt.toNat = some (t, e, τ') → ¬ (suit τ' t ct ∧ Within e ((σ.2.2.1) 7 n))) ∧ (F_Ck_clauseKeepsTo cs fu Lf M A.ck (some b) x2 x3 lv).1 = 0 ∧ ∃ τ' K', (Cks cs lim A σ N C F T g4 k4) (F_Ck_clauseKeepsTo cs fu Lf M A.ck (some b) x2 x3 lv).2 τ' K' ∧ Pot M (F_Ck_clauseKeepsTo cs fu Lf M A.ck (some b) x2 x3 lv).2 K K' ∧ τ <+: τ')) := by
  have lv1 : (lv + 1).toInt = lv.toInt + 1 := by
    have := (X.nok.nd ((σ.2.2.1) 19 q).toInt.toNat (by have := (X.nok.cl q hq).b; omega)).dp
    clear hL X h sc hcl
    ((try (simp only [vp_in, Int32.toNatClampNeg, Int32.lt_iff_toInt_lt, Int32.le_iff_toInt_le, ← Int32.toInt_inj, Int32.toInt_add, Int32.toInt_sub, Int32.toInt_mul, Int32.reduceToInt, i32_neg1, Nat.reducePow, Int.reducePow, ne_eq, ge_iff_le, gt_iff_lt] at *)) <;> (first | omega | ((simp (disch := omega) only [bm32] at *) <;> omega)))
  have CL := X.nok.cl q hq
  have e0 : cI M b 0 = (σ.2.2.1) 16 q := hcl.2 0 (by decide)
  obtain ⟨ce1, ce2⟩ := CL.e
  obtain ⟨cx1, cx2⟩ := CL.x
  obtain ⟨ck1, ck2⟩ := CL.k
  obtain ⟨cb1, cb2⟩ := CL.b
  have ie : ((σ.2.2.1) 16 q).toInt.toNat < 8 := by omega
  obtain ⟨eo1, eo2⟩ := X.eok _ ie
  obtain ⟨ef1, ef2⟩ := h.ef _ ie
  have tt := h.tt
  have et : ((σ.2.2.1) 24 ((σ.2.2.1) 16 q).toInt.toNat).toInt = (tks σ ((σ.2.2.1) 16 q).toInt.toNat : Nat) := by unfold tks; have := eo1.1; omega
  have eg : ((σ.2.2.1) 25 ((σ.2.2.1) 16 q).toInt.toNat).toInt = (gvs σ ((σ.2.2.1) 16 q).toInt.toNat : Nat) := by unfold gvs; have := eo2.1; omega
  have egl : gvs σ ((σ.2.2.1) 16 q).toInt.toNat < 3 + τ.length := by unfold Is at eo2; omega
  have etl : tks σ ((σ.2.2.1) 16 q).toInt.toNat < 3 + τ.length := by unfold Is at eo1; omega
  have d1 : ¬ (σ.2.2.1) 16 q < 0 := by clear hL X; ((try (simp only [vp_in, Int32.toNatClampNeg, Int32.lt_iff_toInt_lt, Int32.le_iff_toInt_le, ← Int32.toInt_inj, Int32.toInt_add, Int32.toInt_sub, Int32.toInt_mul, Int32.reduceToInt, i32_neg1, Nat.reducePow, Int.reducePow, ne_eq, ge_iff_le, gt_iff_lt] at *)) <;> (first | omega | ((simp (disch := omega) only [bm32] at *) <;> omega)))
  have d2 : (σ.2.2.1) 16 q < 8 := by clear hL X; ((try (simp only [vp_in, Int32.toNatClampNeg, Int32.lt_iff_toInt_lt, Int32.le_iff_toInt_le, ← Int32.toInt_inj, Int32.toInt_add, Int32.toInt_sub, Int32.toInt_mul, Int32.reduceToInt, i32_neg1, Nat.reducePow, Int.reducePow, ne_eq, ge_iff_le, gt_iff_lt] at *)) <;> (first | omega | ((simp (disch := omega) only [bm32] at *) <;> omega)))
  have vp : vp_in ((σ.2.2.1) 16 q) 8 := by clear hL X; ((try (simp only [vp_in, Int32.toNatClampNeg, Int32.lt_iff_toInt_lt, Int32.le_iff_toInt_le, ← Int32.toInt_inj, Int32.toInt_add, Int32.toInt_sub, Int32.toInt_mul, Int32.reduceToInt, i32_neg1, Nat.reducePow, Int.reducePow, ne_eq, ge_iff_le, gt_iff_lt] at *)) <;> (first | omega | ((simp (disch := omega) only [bm32] at *) <;> omega)))
  have hclp : ((σ.2.2.1) 16 q).toNatClampNeg = ((σ.2.2.1) 16 q).toInt.toNat := rfl
  have sbody := (X.nok.nd ((σ.2.2.1) 19 q).toInt.toNat (by omega)).s1
  unfold S_Ck_clauseKeepsTo F_Ck_clauseKeepsTo
  simp only [Option.getD_some, mbind_eq, e0, if_neg d1, if_pos d2, h.lay.ck_1.2, h.lay.ck_3.2, hclp, ef2, h.lay.rs.2]
  obtain ⟨s1, v1, K1, c1, x1, p1, sc1⟩ := ck_number (fu := fu) h (by omega) eg egl hx2 hct hb3 hf
  obtain ⟨n1, n2, n3, n4⟩ := number_pre (τ := τ) (x := (gvs σ ((σ.2.2.1) 16 q).toInt.toNat, ct, x3))
  have sc1' := sc1 _ sc
  subst hx3
  have hle1 := n1.length_le
  unfold cEnv
  generalize hτ1 : (number τ (gvs σ ((σ.2.2.1) 16 q).toInt.toNat, ct, (σ.2.2.1) 7 n)) = nu at v1 c1 sc1' n1 n2 n3 n4 hle1 ⊢
  obtain ⟨nt, τ1⟩ := nu
  dsimp only at v1 c1 sc1' n1 n2 n3 n4 hle1 ⊢
  generalize F_Ty_numberOf cs fu M A.ty ((σ.2.2.1) 25 ((σ.2.2.1) 16 q).toInt.toNat) x2 ((σ.2.2.1) 7 n) = w1 at v1 c1 x1 p1 sc1' ⊢
  have hcl1 := hcl.ext x1 (by decide)
  have f1 : cI w1.2 b 1 = (σ.2.2.1) 17 q := hcl1.2 1 (by decide)
  have ef1' := (c1.ef _ ie).1
  simp only [f1, c1.lay.ck_2.2, Option.getD_some, ef1', c1.lay.gv.2]
  obtain ⟨s2, v2, c2, x2_, z2, a2⟩ := ck_rename c1 (x := (σ.2.2.1) 17 q) (t := (σ.2.2.1) 24 ((σ.2.2.1) 16 q).toInt.toNat) (i := ((σ.2.2.1) 17 q).toInt.toNat) (by omega) (by omega)
  have sc2 := sc1'.xenv (τ' := τ1) a2 (Nat.le_refl _) (by rw [et]; omega)
  rw [et] at sc2
  generalize F_Ck_rename cs w1.2 A.ck ((σ.2.2.1) 17 q) ((σ.2.2.1) 24 ((σ.2.2.1) 16 q).toInt.toNat) = w2 at v2 c2 x2_ z2 a2 sc2 ⊢
  have hcl2 := hcl1.ext x2_ (by decide)
  have f2 : cI w2.2 b 2 = (σ.2.2.1) 18 q := hcl2.2 2 (by decide)
  rw [f2]
  obtain ⟨s3, v3, c3, x3_, z3, a3⟩ := ck_rename c2 (x := (σ.2.2.1) 18 q) (t := w1.1) (i := ((σ.2.2.1) 18 q).toInt.toNat) (by omega) (by omega)
  have sc3 := sc2.xenv (τ' := τ1) a3 (Nat.le_refl _) (by rw [v1]; omega)
  rw [v1] at sc3
  generalize F_Ck_rename cs w2.2 A.ck ((σ.2.2.1) 18 q) w1.1 = w3 at v3 c3 x3_ z3 a3 sc3 ⊢
  have hcl3 := hcl2.ext x3_ (by decide)
  have f3 : cI w3.2 b 3 = (σ.2.2.1) 19 q := hcl3.2 3 (by decide)
  rw [f3]
  obtain ⟨s4, r4⟩ := hL w3.2 τ1 _ K1 _ ((σ.2.2.1) 19 q) (lv + 1) (show ((σ.2.2.1) 19 q).toInt.toNat < N by omega) (by omega) hdp (by omega) (by omega) (by omega) c3 sc3
  generalize Lf w3.2 A.ck ((σ.2.2.1) 19 q) (lv + 1) = w4 at r4 ⊢
  obtain ⟨x4, r4⟩ := r4.split
  have hcl4 := hcl3.ext x4 (by decide)
  have f2' : cI w4.2 b 2 = (σ.2.2.1) 18 q := hcl4.2 2 (by decide)
  rw [f2']
  have X4 : Ext Wl Vl true M w4.2 := ((x1.trans h.lay.mok x2_).trans h.lay.mok x3_).trans h.lay.mok x4
  have P3 : Pot M w3.2 K K1 := (p1.trans (Pot.light z2)).trans (Pot.light z3)
  rcases r4 with ⟨hw, t, e, τ4, K4, q1, q2, q3, q4, q5, q6, q7, q8, q9, q10⟩ | ⟨hw, q1, τ4, K4, q2, q3, q4⟩
  · have hle4 : τ1.length ≤ τ4.length := q10.length_le
    obtain ⟨s5, v5, c5, x5, z5, a5⟩ := ck_rename q6 (x := (σ.2.2.1) 18 q) (t := w3.1) (i := ((σ.2.2.1) 18 q).toInt.toNat) (by omega) (by omega)
    have g2 := sc2 ((σ.2.2.1) 18 q).toInt.toNat (by omega)
    generalize F_Ck_rename cs w4.2 A.ck ((σ.2.2.1) 18 q) w3.1 = w5 at v5 c5 x5 z5 a5 ⊢
    have sc5 := q8.xenv (τ' := τ4) a5 (Nat.le_refl _) (by rw [v3, g2.1]; omega)
    rw [v3, g2.1, env_back] at sc5
    have hcl5 := hcl4.ext x5 (by decide)
    have f1' : cI w5.2 b 1 = (σ.2.2.1) 17 q := hcl5.2 1 (by decide)
    rw [f1']
    obtain ⟨s6, v6, c6, x6, z6, a6⟩ := ck_rename c5 (x := (σ.2.2.1) 17 q) (t := w2.1) (i := ((σ.2.2.1) 17 q).toInt.toNat) (by omega) (by omega)
    have g1 := sc1' ((σ.2.2.1) 17 q).toInt.toNat (by omega)
    generalize F_Ck_rename cs w5.2 A.ck ((σ.2.2.1) 17 q) w2.1 = w6 at v6 c6 x6 z6 a6 ⊢
    have sc6 := sc5.xenv (τ' := τ4) a6 (Nat.le_refl _) (by rw [v2, g1.1]; omega)
    rw [v2, g1.1, env_back] at sc6
    have hcl6 := hcl5.ext x6 (by decide)
    have X6 : Ext Wl Vl true M w6.2 := (X4.trans h.lay.mok x5).trans h.lay.mok x6
    have P6 : Pot M w6.2 K K4 := ((P3.trans q7).trans (Pot.light z5)).trans (Pot.light z6)
    simp only [if_neg hw, c6.lay.ck_1.2, Option.getD_some]
    have hb : (F_Ck_typeIn cs w6.2 w4.1).toInt = (t : Nat) := q2
    have he : F_Ck_effectsIn cs w6.2 w4.1 = e := q3
    obtain ⟨ss, vs⟩ := c6.ty.suits (lim := lim) c6.lay hb hx2 q5 (by omega)
    have o6 : cOq 1 w6.2 (some A.ty) := ⟨_, rfl, c6.lay.ty_0.1⟩
    have o1 : cOq 1 M (some A.ty) := ⟨_, rfl, h.lay.ty_0.1⟩
    rcases vs with ⟨ve, vq⟩ | ⟨ve, vq⟩
    · simp only [ve, if_neg (show ¬ (1 : Int32) = 0 by decide), he, F_N_isWithin, S_N_isWithin]
      by_cases hwi : e &&& ((σ.2.2.1) 7 n ^^^ -1) = 0
      · simp only [if_pos hwi, if_neg (show ¬ (1 : Int32) = 0 by decide)]
        exact ⟨⟨⟨b, rfl, hcl.1⟩, h.lay.ck_0.1, h.lay.ck_0.1, ⟨trivial, h.lay.rs.1⟩, vp, o1, s1, ⟨b, rfl, hcl1.1⟩, c1.lay.ck_0.1, ⟨trivial, c1.lay.gv.1⟩, vp, c1.lay.ck_0.1, s2, ⟨b, rfl, hcl2.1⟩, c2.lay.ck_0.1, s3, ⟨b, rfl, hcl3.1⟩, c3.lay.ck_0.1, s4, ⟨b, rfl, hcl4.1⟩, q6.lay.ck_0.1, s5, ⟨b, rfl, hcl5.1⟩, c5.lay.ck_0.1, s6, c6.lay.ck_0.1, trivial, o6, ss, trivial, trivial, trivial⟩, X6, Or.inl ⟨t, e, τ4, K4, q1, vq, hwi, trivial, c6, P6, sc6, by omega, n1.trans q10⟩⟩
      · obtain ⟨sb1, vb, cb, xb, zb⟩ := ck_blame c6 7 (cI w6.2 b 3)
        simp only [if_neg hwi, if_pos]
        exact ⟨⟨⟨b, rfl, hcl.1⟩, h.lay.ck_0.1, h.lay.ck_0.1, ⟨trivial, h.lay.rs.1⟩, vp, o1, s1, ⟨b, rfl, hcl1.1⟩, c1.lay.ck_0.1, ⟨trivial, c1.lay.gv.1⟩, vp, c1.lay.ck_0.1, s2, ⟨b, rfl, hcl2.1⟩, c2.lay.ck_0.1, s3, ⟨b, rfl, hcl3.1⟩, c3.lay.ck_0.1, s4, ⟨b, rfl, hcl4.1⟩, q6.lay.ck_0.1, s5, ⟨b, rfl, hcl5.1⟩, c5.lay.ck_0.1, s6, c6.lay.ck_0.1, trivial, o6, ss, trivial, trivial, ⟨b, rfl, hcl6.1⟩, c6.lay.ck_0.1, sb1, trivial⟩, X6.trans h.lay.mok xb, Or.inr ⟨fun t' e' τ' z y => by rw [q1] at z; cases z; exact hwi y.2, trivial, τ4, K4, cb, P6.trans (Pot.light zb), n1.trans q10⟩⟩
    · obtain ⟨sb1, vb, cb, xb, zb⟩ := ck_blame c6 6 (cI w6.2 b 3)
      simp only [ve, if_pos]
      exact ⟨⟨⟨b, rfl, hcl.1⟩, h.lay.ck_0.1, h.lay.ck_0.1, ⟨trivial, h.lay.rs.1⟩, vp, o1, s1, ⟨b, rfl, hcl1.1⟩, c1.lay.ck_0.1, ⟨trivial, c1.lay.gv.1⟩, vp, c1.lay.ck_0.1, s2, ⟨b, rfl, hcl2.1⟩, c2.lay.ck_0.1, s3, ⟨b, rfl, hcl3.1⟩, c3.lay.ck_0.1, s4, ⟨b, rfl, hcl4.1⟩, q6.lay.ck_0.1, s5, ⟨b, rfl, hcl5.1⟩, c5.lay.ck_0.1, s6, c6.lay.ck_0.1, trivial, o6, ss, ⟨b, rfl, hcl6.1⟩, c6.lay.ck_0.1, sb1, trivial⟩, X6.trans h.lay.mok xb, Or.inr ⟨fun t' e' τ' z y => by rw [q1] at z; cases z; exact vq y.1, trivial, τ4, K4, cb, P6.trans (Pot.light zb), n1.trans q10⟩⟩
  · obtain ⟨s5, v5, c5, x5, z5, a5⟩ := ck_rename q2 (x := (σ.2.2.1) 18 q) (t := w3.1) (i := ((σ.2.2.1) 18 q).toInt.toNat) (by omega) (by omega)
    generalize F_Ck_rename cs w4.2 A.ck ((σ.2.2.1) 18 q) w3.1 = w5 at v5 c5 x5 z5 a5 ⊢
    have hcl5 := hcl4.ext x5 (by decide)
    have f1' : cI w5.2 b 1 = (σ.2.2.1) 17 q := hcl5.2 1 (by decide)
    rw [f1']
    obtain ⟨s6, v6, c6, x6, z6, a6⟩ := ck_rename c5 (x := (σ.2.2.1) 17 q) (t := w2.1) (i := ((σ.2.2.1) 17 q).toInt.toNat) (by omega) (by omega)
    generalize F_Ck_rename cs w5.2 A.ck ((σ.2.2.1) 17 q) w2.1 = w6 at v6 c6 x6 z6 a6 ⊢
    have o1 : cOq 1 M (some A.ty) := ⟨_, rfl, h.lay.ty_0.1⟩
    simp only [if_pos hw]
    exact ⟨⟨⟨b, rfl, hcl.1⟩, h.lay.ck_0.1, h.lay.ck_0.1, ⟨trivial, h.lay.rs.1⟩, vp, o1, s1, ⟨b, rfl, hcl1.1⟩, c1.lay.ck_0.1, ⟨trivial, c1.lay.gv.1⟩, vp, c1.lay.ck_0.1, s2, ⟨b, rfl, hcl2.1⟩, c2.lay.ck_0.1, s3, ⟨b, rfl, hcl3.1⟩, c3.lay.ck_0.1, s4, ⟨b, rfl, hcl4.1⟩, q2.lay.ck_0.1, s5, ⟨b, rfl, hcl5.1⟩, c5.lay.ck_0.1, s6, trivial⟩, (X4.trans h.lay.mok x5).trans h.lay.mok x6, Or.inr ⟨fun t' e' τ' z y => (by rw [q1] at z; cases z), trivial, τ4, K4, c6, ((P3.trans q3).trans (Pot.light z5)).trans (Pot.light z6), n1.trans q4⟩⟩
end
end
section
/-! pure rows, the class: the clauses of a handle (written by gen_de.py) -/
section
variable {cs : Nat → ClassId} {lim : Nat × Nat} {A : Ad} {σ : mSt} {N C R F T : Nat} {g4 : Nat → Int32} {k4 : Nat} {M : gMem} {τ : TT} {K : Nat} {g : Nat → Int}
variable {Lf : gMem → Nat → Int32 → Int32 → Int32 × gMem} {Ls : gMem → Nat → Int32 → Int32 → Prop} {d n a fu : Nat} {lv : Int32}
/-- which effects have had their clause -/
def Had (σ : mSt) (f j : Nat) (x8 : Int32) : Prop := ∀ i, i < 8 → (Bit x8 i ↔ ∃ k, k < j ∧ (σ.2.2.1 16 (f + k)).toInt.toNat = i)
theorem evC_end {ct k j : Nat} {cr : Int32} (hj : ¬ j < ((σ.2.2.1) 15 n).toInt.toNat) : evC (σ.2.2.1) (tks σ) (gvs σ) g n ct cr k j τ = if Within (left (σ.2.2.1) n ((σ.2.2.1) 15 n).toInt.toNat cr) ((σ.2.2.1) 7 n) then some (ct, (σ.2.2.1) 7 n, τ) else none := by
  unfold evC clauses
  rw [if_neg hj]
  by_cases h : Within (left (σ.2.2.1) n ((σ.2.2.1) 15 n).toInt.toNat cr) ((σ.2.2.1) 7 n)
  · rw [if_pos h, if_pos h]; rfl
  · rw [if_neg h, if_neg h]; rfl
theorem evC_go (hk : ((σ.2.2.1) 5 n).toInt = 8) {ct k j : Nat} {cr : Int32} (hj : j < ((σ.2.2.1) 15 n).toInt.toNat) (hm : ((σ.2.2.1) 19 (((σ.2.2.1) 14 n).toInt.toNat + j)).toInt.toNat < n) : evC (σ.2.2.1) (tks σ) (gvs σ) g n ct cr (k + 1) j τ = if (∃ i, i < j ∧ (σ.2.2.1) 16 (((σ.2.2.1) 14 n).toInt.toNat + i) = (σ.2.2.1) 16 (((σ.2.2.1) 14 n).toInt.toNat + j)) then none else ((ev σ.2.2.1 (tks σ) (gvs σ)) (number τ (gvs σ ((σ.2.2.1) 16 (((σ.2.2.1) 14 n).toInt.toNat + j)).toInt.toNat, ct, (σ.2.2.1) 7 n)).2 (cEnv σ τ g n (((σ.2.2.1) 14 n).toInt.toNat + j) ct) ((σ.2.2.1) 19 (((σ.2.2.1) 14 n).toInt.toNat + j)).toInt.toNat).bind fun r => if suit r.2.2 r.1 ct ∧ Within r.2.1 ((σ.2.2.1) 7 n) then evC (σ.2.2.1) (tks σ) (gvs σ) g n ct cr k (j + 1) r.2.2 else none := by
  unfold evC clauses
  rw [if_pos hj]
  by_cases hd : ∃ i, i < j ∧ (σ.2.2.1) 16 (((σ.2.2.1) 14 n).toInt.toNat + i) = (σ.2.2.1) 16 (((σ.2.2.1) 14 n).toInt.toNat + j)
  · rw [if_pos hd, if_pos hd]; rfl
  · rw [if_neg hd, if_neg hd]
    show (if _ < n then _ else _) = _
    rw [if_pos hm]
    unfold cEnv
    congr 1
    funext r
    exact rest_8 hk
theorem ck_clauses (X : Ctx σ N C R T) (hL : HL cs lim A σ N C F T g4 k4 Lf Ls d) (hn : n < N) (hk : ((σ.2.2.1) 5 n).toInt = 8) (hd : Dp σ n ≤ d + 1) (hv : 1 ≤ lv.toInt) (hv2 : lv.toInt + Dp σ n ≤ 41) {x3 x4 x5 x6 x7 cr : Int32} {ct many : Nat} (h3 : x3 &&& 255 = cr) (h6 : x6 = (σ.2.2.1) 7 n) (h7 : x7.toInt = ct) (hmany : ((σ.2.2.1) 15 n).toInt = (many : Nat)) {S0 : Int} :
    ∀ (r j k fl : Nat) (x8 x9 : Int32) (M : gMem) (τ : TT) (K : Nat), many - j = r → j ≤ many → r ≤ k → r + 600 < fl → x9.toInt = (((σ.2.2.1) 14 n).toInt.toNat + j : Nat) → ct < 3 + τ.length → Had σ ((σ.2.2.1) 14 n).toInt.toNat j x8 → cr &&& (x8 ^^^ (-1)) = left (σ.2.2.1) n j cr → (τ.length : Int) ≤ S0 + csz σ ((σ.2.2.1) 14 n).toInt.toNat j → S0 + csz σ ((σ.2.2.1) 14 n).toInt.toNat many + 1 ≤ 500 → (Cks cs lim A σ N C F T g4 k4) M τ K → Sc A M τ g → NodeAt M a (ndOf (σ.2.2.1) n) →
      S_Ck_lookHandle_111 cs lim Lf Ls fl M A.ck (some a) lv x3 x4 x5 x6 x7 x8 x9 ∧ Ext Wl Vl true M (F_Ck_lookHandle_111 cs Lf fl M A.ck (some a) lv x3 x4 x5 x6 x7 x8 x9).2 ∧
        ((∃ τ' K', evC (σ.2.2.1) (tks σ) (gvs σ) g n ct cr k j τ = some (ct, (σ.2.2.1) 7 n, τ') ∧ (F_Ck_lookHandle_111 cs Lf fl M A.ck (some a) lv x3 x4 x5 x6 x7 x8 x9).1 = x7 * 256 + x6 ∧ (Cks cs lim A σ N C F T g4 k4) (F_Ck_lookHandle_111 cs Lf fl M A.ck (some a) lv x3 x4 x5 x6 x7 x8 x9).2 τ' K' ∧ Pot M (F_Ck_lookHandle_111 cs Lf fl M A.ck (some a) lv x3 x4 x5 x6 x7 x8 x9).2 K K' ∧ Sc A (F_Ck_lookHandle_111 cs Lf fl M A.ck (some a) lv x3 x4 x5 x6 x7 x8 x9).2 τ' g ∧ (τ'.length : Int) ≤ S0 + csz σ ((σ.2.2.1) 14 n).toInt.toNat many ∧ τ <+: τ') ∨
         (evC (σ.2.2.1) (tks σ) (gvs σ) g n ct cr k j τ = none ∧ (F_Ck_lookHandle_111 cs Lf fl M A.ck (some a) lv x3 x4 x5 x6 x7 x8 x9).1 = -1 ∧ ∃ τ' K', (Cks cs lim A σ N C F T g4 k4) (F_Ck_lookHandle_111 cs Lf fl M A.ck (some a) lv x3 x4 x5 x6 x7 x8 x9).2 τ' K' ∧ Pot M (F_Ck_lookHandle_111 cs Lf fl M A.ck (some a) lv x3 x4 x5 x6 x7 x8 x9).2 K K' ∧ τ <+: τ')) := by
  have N0 := X.nok.nd n hn
  obtain ⟨cf1, cf2⟩ := N0.cf (by show ((σ.2.2.1) 5 n).toInt = 8; omega)
  have hC := X.nok.hc
  have hto : toOf (σ.2.2.1) n = (σ.2.2.1) 14 n + (σ.2.2.1) 15 n := by unfold toOf; rw [if_pos (by omega)]
  have hti : ((σ.2.2.1) 14 n + (σ.2.2.1) 15 n).toInt = (((σ.2.2.1) 14 n).toInt.toNat + many : Nat) := by clear hL X; ((try (simp only [vp_in, Int32.toNatClampNeg, Int32.lt_iff_toInt_lt, Int32.le_iff_toInt_le, ← Int32.toInt_inj, Int32.toInt_add, Int32.toInt_sub, Int32.toInt_mul, Int32.reduceToInt, i32_neg1, Nat.reducePow, Int.reducePow, ne_eq, ge_iff_le, gt_iff_lt] at *)) <;> (first | omega | ((simp (disch := omega) only [bm32] at *) <;> omega)))
  have hbyte : Byte ((σ.2.2.1) 7 n) := X.hrow n hn (by omega)
  intro r
  induction r with
  | zero =>
    intro j k fl x8 x9 M τ K hr hj hk2 hfl hx9 hct had hleft hlen hmax h sc ha
    obtain ⟨fl, rfl⟩ : ∃ m, fl = m + 1 := ⟨fl - 1, by omega⟩
    have hjm : j = many := by omega
    subst hjm
    have f8 : cI M a 8 = (σ.2.2.1) 14 n + (σ.2.2.1) 15 n := by rw [ha.2 8 (by decide)]; exact hto
    have hle : cI M a 8 ≤ x9 := by rw [f8, Int32.le_iff_toInt_le, hti, hx9]; omega
    have hmn : ((σ.2.2.1) 15 n).toInt.toNat = j := by omega
    have hend := evC_end (n := n) (τ := τ) (g := g) (ct := ct) (k := k) (cr := cr) (σ := σ) (j := j) (by omega)
    rw [hmn, ← hleft] at hend
    simp only [S_Ck_lookHandle_111, F_Ck_lookHandle_111, Option.getD_some, if_pos hle, mbind_eq]
    have he : F_Ck_effectsIn cs M x3 = cr := h3
    simp only [he, F_N_isWithin, S_N_isWithin]
    subst h6
    by_cases hw : cr &&& (x8 ^^^ -1) &&& ((σ.2.2.1) 7 n ^^^ -1) = 0
    · simp only [if_pos hw, if_neg (show ¬ (1 : Int32) = 0 by decide)]
      exact ⟨⟨⟨a, rfl, ha.1⟩, trivial, trivial, trivial, trivial⟩, Ext.rf h.lay.mok, Or.inl ⟨τ, K, by rw [hend]; exact if_pos hw, rfl, h, Pot.rf, sc, hlen, List.prefix_refl _⟩⟩
    · simp only [if_neg hw, if_pos]
      obtain ⟨sb1, vb, cb, xb, zb⟩ := ck_blame h 7 (cI M a 4)
      exact ⟨⟨⟨a, rfl, ha.1⟩, trivial, trivial, ⟨a, rfl, ha.1⟩, h.lay.ck_0.1, sb1, trivial⟩, xb, Or.inr ⟨by rw [hend]; exact if_neg hw, vb, τ, K, cb, Pot.light zb, List.prefix_refl _⟩⟩
  | succ r ih =>
    intro j k fl x8 x9 M τ K hr hj hk2 hfl hx9 hct had hleft hlen hmax h sc ha
    obtain ⟨fl, rfl⟩ : ∃ m, fl = m + 1 := ⟨fl - 1, by omega⟩
    obtain ⟨k, rfl⟩ : ∃ m, k = m + 1 := ⟨k - 1, by omega⟩
    have i1 : many - (j + 1) = r := by omega
    have i2 : j + 1 ≤ many := by omega
    have i3 : r ≤ k := by omega
    have i4 : r + 600 < fl := by omega
    have f8 : cI M a 8 = (σ.2.2.1) 14 n + (σ.2.2.1) 15 n := by rw [ha.2 8 (by decide)]; exact hto
    have hle : ¬ cI M a 8 ≤ x9 := by rw [f8, Int32.le_iff_toInt_le, hti, hx9]; omega
    have hjn : j < ((σ.2.2.1) 15 n).toInt.toNat := by omega
    have hqC : ((σ.2.2.1) 14 n).toInt.toNat + j < C := by omega
    obtain ⟨ce1, ce2, ce3⟩ := N0.ce (by show ((σ.2.2.1) 5 n).toInt = 8; omega) (((σ.2.2.1) 14 n).toInt.toNat + j) (by omega) (by omega)
    have hgo := evC_go (n := n) (τ := τ) (g := g) (ct := ct) (k := k) (cr := cr) (σ := σ) (j := j) hk hjn (by omega)
    obtain ⟨s1, b, f1, f2, f3⟩ := ns_clauseAt (lim := lim) h.lay h.ns hx9 hqC
    have CL := X.nok.cl _ hqC
    generalize hq : ((σ.2.2.1) 14 n).toInt.toNat + j = q at hx9 hqC ce1 ce2 ce3 hgo f2 f3 CL
    have e0 : cI M b 0 = (σ.2.2.1) 16 q := f3.2 0 (by decide)
    obtain ⟨cl1, cl2⟩ := CL.e
    simp only [S_Ck_lookHandle_111, F_Ck_lookHandle_111, Option.getD_some, if_neg hle, mbind_eq, h.lay.ck_0.2, f1, e0]
    have ie : ((σ.2.2.1) 16 q).toInt = (((σ.2.2.1) 16 q).toInt.toNat : Nat) := by omega
    have hb0 := bit_0 x8 ((σ.2.2.1) 16 q) (i := ((σ.2.2.1) 16 q).toInt.toNat) ie (by omega)
    have hex : Bit x8 ((σ.2.2.1) 16 q).toInt.toNat ↔ ∃ i, i < j ∧ (σ.2.2.1) 16 (((σ.2.2.1) 14 n).toInt.toNat + i) = (σ.2.2.1) 16 q := by
      rw [had _ (by omega)]
      constructor
      · rintro ⟨i, q1, q2⟩
        refine ⟨i, q1, Int32.toInt_inj.mp ?_⟩
        have := (X.nok.cl (((σ.2.2.1) 14 n).toInt.toNat + i) (by omega)).e
        omega
      · rintro ⟨i, q1, q2⟩
        exact ⟨i, q1, by rw [q2]⟩
    by_cases hz : x8 &&& (1 <<< ((σ.2.2.1) 16 q &&& 31)) = 0
    · have hnd := fun z => (hb0.mp hz) (hex.mpr z)
      rw [if_neg hnd] at hgo
      simp only [if_pos hz]
      have sbody := (X.nok.nd ((σ.2.2.1) 19 q).toInt.toNat (by omega)).s1
      have cm := csz_mono (σ := σ) (f := ((σ.2.2.1) 14 n).toInt.toNat) (m := many) (k := j + 1) (by omega) (fun i hi => by
        have := N0.ce (by show ((σ.2.2.1) 5 n).toInt = 8; omega) (((σ.2.2.1) 14 n).toInt.toNat + i) (by omega) (by omega)
        have := (X.nok.nd ((σ.2.2.1) 19 (((σ.2.2.1) 14 n).toInt.toNat + i)).toInt.toNat (by omega)).s1
        omega)
      have cstep : csz σ ((σ.2.2.1) 14 n).toInt.toNat (j + 1) = csz σ ((σ.2.2.1) 14 n).toInt.toNat j + Sz σ ((σ.2.2.1) 19 q).toInt.toNat := by rw [← hq]; rfl
      obtain ⟨s2, x2, r2⟩ := ck_clause (n := n) (fu := fl) (lv := lv) (g := g) (x2 := x7) (x3 := x6) X hL (by omega) hqC h7 hct h6 (by rw [h6]; exact hbyte) (by omega) hv (by omega) (by omega) h sc f3
      rcases r2 with ⟨t, e, τ1, K1, y1, y2, y3, y4, y5, y6, y7, y8, y9⟩ | ⟨y1, y2, τ1, K1, y3, y4, y5⟩
      · generalize F_Ck_clauseKeepsTo cs fl Lf M A.ck (some b) x7 x6 lv = w2 at x2 y4 y5 y6 y7 ⊢
        simp only [y4, if_neg (show ¬ (1 : Int32) = 0 by decide)]
        have hle1 := y9.length_le
        have i5 : (τ1.length : Int) ≤ S0 + csz σ ((σ.2.2.1) 14 n).toInt.toNat (j + 1) := by rw [cstep]; clear hgo hL X ih; omega
        have ha2 := ha.ext x2 (by decide)
        have had2 : Had σ ((σ.2.2.1) 14 n).toInt.toNat (j + 1) (x8 ||| (1 <<< ((σ.2.2.1) 16 q &&& 31))) := by
          intro i hi
          rw [bit_or x8 ((σ.2.2.1) 16 q) ie (by omega) (by omega), had i hi]
          constructor
          · rintro (z | ⟨z, z1, z2⟩)
            · exact ⟨j, by omega, by rw [hq, z]⟩
            · exact ⟨z, by omega, z2⟩
          · rintro ⟨z, z1, z2⟩
            by_cases zj : z = j
            · subst zj; rw [hq] at z2; exact Or.inl z2.symm
            · exact Or.inr ⟨z, by omega, z2⟩
        have hleft2 : cr &&& ((x8 ||| (1 <<< ((σ.2.2.1) 16 q &&& 31))) ^^^ (-1)) = left (σ.2.2.1) n (j + 1) cr := by
          rw [and_or_not, hleft]
          show _ = left (σ.2.2.1) n j cr &&& ((1 <<< ((σ.2.2.1) 16 (((σ.2.2.1) 14 n).toInt.toNat + j) &&& 31)) ^^^ (-1))
          rw [hq]
        have hx9' : (x9 + 1).toInt = (((σ.2.2.1) 14 n).toInt.toNat + (j + 1) : Nat) := by clear hL X hgo ih; ((try (simp only [vp_in, Int32.toNatClampNeg, Int32.lt_iff_toInt_lt, Int32.le_iff_toInt_le, ← Int32.toInt_inj, Int32.toInt_add, Int32.toInt_sub, Int32.toInt_mul, Int32.reduceToInt, i32_neg1, Nat.reducePow, Int.reducePow, ne_eq, ge_iff_le, gt_iff_lt] at *)) <;> (first | omega | ((simp (disch := omega) only [bm32] at *) <;> omega)))
        obtain ⟨s3, x3', r3⟩ := ih (j + 1) k fl (x8 ||| (1 <<< ((σ.2.2.1) 16 q &&& 31))) (x9 + 1) w2.2 τ1 K1 i1 i2 i3 i4 hx9' (Nat.lt_of_lt_of_le hct (Nat.add_le_add_left hle1 3)) had2 hleft2 i5 hmax y5 y7 ha2
        have hev : evC (σ.2.2.1) (tks σ) (gvs σ) g n ct cr (k + 1) j τ = evC (σ.2.2.1) (tks σ) (gvs σ) g n ct cr k (j + 1) τ1 := by
          rw [hgo, y1]
          simp only [Option.bind_some]
          rw [if_pos ⟨y2, y3⟩]
        rw [hev]
        refine ⟨⟨⟨a, rfl, ha.1⟩, h.lay.ck_0.1, ⟨_, rfl, h.lay.ns_0.1⟩, s1, ⟨b, rfl, f3.1⟩, h.lay.ck_0.1, s2, s3⟩, x2.trans h.lay.mok x3', ?_⟩
        rcases r3 with ⟨τ', K', z1, z2, z3, z4, z5, z6, z7⟩ | ⟨z1, z2, τ', K', z3, z4, z5⟩
        · exact Or.inl ⟨τ', K', z1, z2, z3, y6.trans z4, z5, z6, y9.trans z7⟩
        · exact Or.inr ⟨z1, z2, τ', K', z3, y6.trans z4, y9.trans z5⟩
      · generalize F_Ck_clauseKeepsTo cs fl Lf M A.ck (some b) x7 x6 lv = w2 at x2 y2 y3 y4 ⊢
        simp only [y2, if_pos]
        refine ⟨⟨⟨a, rfl, ha.1⟩, h.lay.ck_0.1, ⟨_, rfl, h.lay.ns_0.1⟩, s1, ⟨b, rfl, f3.1⟩, h.lay.ck_0.1, s2, trivial⟩, x2, Or.inr ⟨?_, trivial, τ1, K1, y3, y4, y5⟩⟩
        rw [hgo]
        cases hev : (ev σ.2.2.1 (tks σ) (gvs σ)) (number τ (gvs σ ((σ.2.2.1) 16 q).toInt.toNat, ct, (σ.2.2.1) 7 n)).2 (cEnv σ τ g n q ct) ((σ.2.2.1) 19 q).toInt.toNat with
        | none => rfl
        | some v =>
          obtain ⟨t, e, τ'⟩ := v
          simp only [Option.bind_some]
          rw [if_neg (y1 t e τ' hev)]
    · have hnd : ∃ i, i < j ∧ (σ.2.2.1) 16 (((σ.2.2.1) 14 n).toInt.toNat + i) = (σ.2.2.1) 16 q := by
        apply hex.mp
        exact Classical.byContradiction fun z => hz (hb0.mpr z)
      rw [if_pos hnd] at hgo
      simp only [if_neg hz]
      obtain ⟨sb1, vb, cb, xb, zb⟩ := ck_blame h 8 (cI M b 3)
      exact ⟨⟨⟨a, rfl, ha.1⟩, h.lay.ck_0.1, ⟨_, rfl, h.lay.ns_0.1⟩, s1, ⟨b, rfl, f3.1⟩, ⟨b, rfl, f3.1⟩, h.lay.ck_0.1, sb1, trivial⟩, xb, Or.inr ⟨hgo, vb, τ, K, cb, Pot.light zb, List.prefix_refl _⟩⟩
end
end
