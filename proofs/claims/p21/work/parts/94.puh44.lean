-- pure rows: IY
section
/-! pure rows: the machines, kept by the calls that tell -/
/-- the mark under a program -/
def mk0 : Fr := ⟨-1, 0, 0, fun _ => 0⟩
/-- a program is loaded -/
def Ld (A : Ad) (X : Cx) (G : Nat → Int32) (ut : Nat) (M : gMem) (σ : mSt) : Prop := (Arr X σ) ∧ (∃ p l' : Nat, (σ.1 36).toInt = p ∧ Gd X p ∧ Cd X.A G 42 p 0 l' ∧ l' ≤ 1700 ∧ cOp G l' = 0 ∧ Ty X.A X.P X.tk X.gv (fun _ => -1) p ut) ∧ ((σ.1 37).toInt = ut) ∧ (cI M A.ma 3 = 0 ↔ ¬ σ.1 37 < 3)
theorem Ld.ar {A : Ad} {X : Cx} {G : Nat → Int32} {ut : Nat} {M : gMem} {σ : mSt} (self : Ld A X G ut M σ) : Arr X σ := self.1
theorem Ld.pr {A : Ad} {X : Cx} {G : Nat → Int32} {ut : Nat} {M : gMem} {σ : mSt} (self : Ld A X G ut M σ) : ∃ p l' : Nat, (σ.1 36).toInt = p ∧ Gd X p ∧ Cd X.A G 42 p 0 l' ∧ l' ≤ 1700 ∧ cOp G l' = 0 ∧ Ty X.A X.P X.tk X.gv (fun _ => -1) p ut := self.2.1
theorem Ld.f37 {A : Ad} {X : Cx} {G : Nat → Int32} {ut : Nat} {M : gMem} {σ : mSt} (self : Ld A X G ut M σ) : (σ.1 37).toInt = ut := self.2.2.1
theorem Ld.m3 {A : Ad} {X : Cx} {G : Nat → Int32} {ut : Nat} {M : gMem} {σ : mSt} (self : Ld A X G ut M σ) : cI M A.ma 3 = 0 ↔ ¬ σ.1 37 < 3 := self.2.2.2
/-- class's machine and reference's, between two calls -/
def JM (cs : Nat → ClassId) (lim dE : Nat × Nat) (A : Ad) (M : gMem) (σ : mSt) : Prop := ∃ (G : Nat → Int32) (k4 : Nat) (X : Cx) (ut r1 r2 : Nat), (∃ fa ta nf nt kf kt w, VT cs dE A G k4 fa ta nf nt kf kt M w) ∧ McA cs lim dE A r1 r2 103401 X G k4 mk0 ut M σ ∧ (X.Ok ∧ (X.N : Int) ≤ (σ.1 0).toInt ∧ (X.C : Int) ≤ (σ.1 1).toInt) ∧ ((σ.1 36 = -1 ∧ σ.1 46 = 0) ∨ Ld A X G ut M σ)
def JY (cs : Nat → ClassId) (lim dE : Nat × Nat) (A : Ad) (q : Nat) (σ : mSt) (M : gMem) : Prop := JX cs lim dE A q σ M ∧ JM cs lim dE A M σ
/-- what a call leaves of the reference; its counts only grow -/
def Tg (σ σ' : mSt) (N C : Nat) : Prop := (Tl σ σ' N C) ∧ ((σ.1 0).toInt ≤ (σ'.1 0).toInt) ∧ ((σ.1 1).toInt ≤ (σ'.1 1).toInt)
theorem Tg.tl {σ σ' : mSt} {N C : Nat} (self : Tg σ σ' N C) : Tl σ σ' N C := self.1
theorem Tg.n {σ σ' : mSt} {N C : Nat} (self : Tg σ σ' N C) : (σ.1 0).toInt ≤ (σ'.1 0).toInt := self.2.1
theorem Tg.c {σ σ' : mSt} {N C : Nat} (self : Tg σ σ' N C) : (σ.1 1).toInt ≤ (σ'.1 1).toInt := self.2.2
theorem Tg.si4 {σ : mSt} {N C : Nat} {z : Int32} : Tg σ (mo_si σ 4 z) N C := ⟨Tl.si4, by rw [si_1, if_neg (by omega)]; exact Int.le_refl _, by rw [si_1, if_neg (by omega)]; exact Int.le_refl _⟩
theorem Tg.of {σ σ' : mSt} {N C : Nat} {z : Int32} (h : σ' = mo_si σ 4 z) : Tg σ σ' N C := by
  rw [h]; exact Tg.si4
theorem Tell.tg {σ σ' : mSt} {N C R T N' C' R' : Nat} (tl : Tell N C σ σ') (ok : NOk σ N C R T) (ok' : NOk σ' N' C' R' T) (hN : N ≤ N') (hC : C ≤ C') : Tg σ σ' N C := by
  have a1 := ok.n
  have a2 := ok'.n
  have a3 := ok.c
  have a4 := ok'.c
  exact ⟨⟨fun k hk => tl.f k (by omega), tl.l, tl.nd, tl.cl, fun k hk => tl.a k (by omega) (by omega) (by omega), tl.ll⟩, by omega, by omega⟩
theorem Told.tg {σ : mSt} {N C R T : Nat} {good : Prop} {w : Int32 × mSt} (h : Told σ N C R T good w) (ok : NOk σ N C R T) : Tg σ w.2 N C := by
  have hn := ok.hn
  by_cases g : good
  · by_cases hN : N < 200
    · obtain ⟨-, -, k, tl, -⟩ := h.2.2 g hN
      exact tl.tg ok k (by omega) (Nat.le_refl _)
    · exact Tg.of (h.2.1 g (by omega))
  · exact Tg.of (h.1 g)
theorem Claused.tg {σ : mSt} {N C R T : Nat} {good : Prop} {w : Int32 × mSt} (h : Claused σ N C R T good w) (ok : NOk σ N C R T) : Tg σ w.2 N C := by
  have hn := ok.hc
  by_cases g : good
  · by_cases hN : C < 40
    · obtain ⟨-, -, k, tl, -⟩ := h.2.2 g hN
      exact tl.tg ok k (Nat.le_refl _) (by omega)
    · exact Tg.of (h.2.1 g (by omega))
  · exact Tg.of (h.1 g)
theorem Handled.tg {σ : mSt} {N C R T : Nat} {good : Prop} {w : Int32 × mSt} (h : Handled σ N C R T good w) (ok : NOk σ N C R T) : Tg σ w.2 N C := by
  have hn := ok.hn
  by_cases g : good
  · by_cases hN : N < 200
    · obtain ⟨-, -, k, tl, -⟩ := h.2.2 g hN
      exact tl.tg ok k (by omega) (Nat.le_refl _)
    · exact Tg.of (h.2.1 g (by omega))
  · exact Tg.of (h.1 g)
section
variable {cs : Nat → ClassId} {lim dE : Nat × Nat} {A : Ad} {M M' : gMem} {σ σ' : mSt} {q q' n : Nat}
theorem JM.move {W V : List (Nat × Nat)} {al : Bool} {N C R T : Nat} (J : JM cs lim dE A M σ) (j : JX cs lim dE A q' σ' M') (om : cOk 8 M A.ma) (e : Ext W V al M M') (hW : W.all (fun x => !BAD.contains x && x.1 != 8 && x.1 != 9 && x.1 != 10 && x.1 != 11) = true) (hV : V.all (fun x => x != (13, 0) && x != (10, 0) && x != (11, 0)) = true) (c4 : ∀ g k, CeIs cs M A.c4 g k → CeIs cs M' A.c4 g k) (ok : NOk σ N C R T) (t : Tg σ σ' N C) : JM cs lim dE A M' σ' := by
  obtain ⟨G, k4, X, ut, r1, r2, ⟨fa, ta, nf, nt, kf, kt, w, vt⟩, mc, ⟨xo, b1, b2⟩, ld⟩ := J
  obtain ⟨τ, N', C', R', j⟩ := j
  obtain ⟨s1, s2, g4', k4', K, Fs, Ts, hs, -⟩ := j.kc.hs
  have c := c4 _ _ vt.h.c4
  have f := t.tl.f
  have a1 := ok.n
  have a3 := ok.c
  have t1 := t.n
  have t2 := t.c
  have ar : Arr X σ → Arr X σ' := t.tl.arr (by omega) (by omega)
  have nW : (8, 3) ∉ W := fun hm => by
    have := List.all_eq_true.mp hW _ hm
    simp only [Bool.and_eq_true, bne_iff_ne, ne_eq] at this
    exact this.1.1.1.2 trivial
  refine ⟨G, k4, X, ut, s1, s2, ⟨fa, ta, nf, nt, kf, kt, w, vt.move e hW hV c⟩, mc.move om e hW hV c hs (fun k hk => f k (by omega)) t.tl.l ar t.tl.a t.tl.al, ⟨xo, by omega, by omega⟩, ?_⟩
  rcases ld with ⟨l1, l2⟩ | l
  · exact Or.inl ⟨by rw [f 36 (by omega)]; exact l1, by rw [f 46 (by omega)]; exact l2⟩
  · obtain ⟨p, l', p1, p2, p3, p4, p5, p6⟩ := l.pr
    refine Or.inr ⟨ar l.ar, ⟨p, l', by rw [f 36 (by omega)]; exact p1, p2, p3, p4, p5, p6⟩, by rw [f 37 (by omega)]; exact l.f37, ?_⟩
    rw [e.xcI om nW, f 37 (by omega)]
    exact l.m3
theorem JM.same {z : Int32} {N C R T : Nat} (J : JM cs lim dE A M σ) (j : JX cs lim dE A q' (mo_si σ 4 z) M) (ok : NOk σ N C R T) : JM cs lim dE A M (mo_si σ 4 z) := by
  have j0 := j
  obtain ⟨τ, N', C', R', j0⟩ := j0
  exact J.move j j0.lay.ma_0.1 (Ext.rf (W := []) (V := []) (al := true) j0.lay.mok) (by decide) (by decide) (fun _ _ h => h) ok Tg.si4
theorem let_y (J : JY cs lim dE A (q + 1) σ M) (hn : 50 ≤ n) (x1 x2 x3 : Int32) : S_N_let cs lim n M A.x x1 x2 x3 ∧ S_Mo_let σ x1 x2 x3 ∧ Same2 (F_N_let cs n M A.x x1 x2 x3) (F_Mo_let σ x1 x2 x3) ∧ JY cs lim dE A q (F_Mo_let σ x1 x2 x3).2 (F_N_let cs n M A.x x1 x2 x3).2.2 := by
  obtain ⟨J, m⟩ := J
  obtain ⟨s1, s2, b, j⟩ := let_j J hn x1 x2 x3
  refine ⟨s1, s2, b, j, ?_⟩
  obtain ⟨τ, N, C, R, J⟩ := J
  have c2 := (let_ok J.moi.nok (x1 := x1) (x2 := x2) (x3 := x3)).2
  have e := x_N_let cs lim n M A.x x1 x2 x3 J.lay.mok s1
  exact m.move j J.lay.ma_0.1 e (by decide) (by decide) (fun g k c => c.ext e (by decide) (by decide)) J.moi.nok (c2.tg J.moi.nok)
theorem rec_y (J : JY cs lim dE A (q + 1) σ M) (hn : 50 ≤ n) (x1 x2 x3 x4 x5 : Int32) : S_N_rec cs lim n M A.x x1 x2 x3 x4 x5 ∧ S_Mo_rec σ x1 x2 x3 x4 x5 ∧ Same2 (F_N_rec cs n M A.x x1 x2 x3 x4 x5) (F_Mo_rec σ x1 x2 x3 x4 x5) ∧ JY cs lim dE A q (F_Mo_rec σ x1 x2 x3 x4 x5).2 (F_N_rec cs n M A.x x1 x2 x3 x4 x5).2.2 := by
  obtain ⟨J, m⟩ := J
  obtain ⟨s1, s2, b, j⟩ := rec_j J hn x1 x2 x3 x4 x5
  refine ⟨s1, s2, b, j, ?_⟩
  obtain ⟨τ, N, C, R, J⟩ := J
  have c2 := (rec_ok J.moi.nok J.moi.tok.n (x1 := x1) (x2 := x2) (x3 := x3) (x4 := x4) (x5 := x5)).2
  have e := x_N_rec cs lim n M A.x x1 x2 x3 x4 x5 J.lay.mok s1
  exact m.move j J.lay.ma_0.1 e (by decide) (by decide) (fun g k c => c.ext e (by decide) (by decide)) J.moi.nok (c2.tg J.moi.nok)
theorem choice_y (J : JY cs lim dE A (q + 1) σ M) (hn : 50 ≤ n) (x1 x2 x3 : Int32) : S_N_choice cs lim n M A.x x1 x2 x3 ∧ S_Mo_choice σ x1 x2 x3 ∧ Same2 (F_N_choice cs n M A.x x1 x2 x3) (F_Mo_choice σ x1 x2 x3) ∧ JY cs lim dE A q (F_Mo_choice σ x1 x2 x3).2 (F_N_choice cs n M A.x x1 x2 x3).2.2 := by
  obtain ⟨J, m⟩ := J
  obtain ⟨s1, s2, b, j⟩ := choice_j J hn x1 x2 x3
  refine ⟨s1, s2, b, j, ?_⟩
  obtain ⟨τ, N, C, R, J⟩ := J
  have c2 := (choice_ok J.moi.nok (x1 := x1) (x2 := x2) (x3 := x3)).2
  have e := x_N_choice cs lim n M A.x x1 x2 x3 J.lay.mok s1
  exact m.move j J.lay.ma_0.1 e (by decide) (by decide) (fun g k c => c.ext e (by decide) (by decide)) J.moi.nok (c2.tg J.moi.nok)
theorem fn_y (J : JY cs lim dE A (q + 1) σ M) (hn : 50 ≤ n) (x1 x2 x3 : Int32) : S_N_fn cs lim n M A.x x1 x2 x3 ∧ S_Mo_fn σ x1 x2 x3 ∧ Same2 (F_N_fn cs n M A.x x1 x2 x3) (F_Mo_fn σ x1 x2 x3) ∧ JY cs lim dE A q (F_Mo_fn σ x1 x2 x3).2 (F_N_fn cs n M A.x x1 x2 x3).2.2 := by
  obtain ⟨J, m⟩ := J
  obtain ⟨s1, s2, b, j⟩ := fn_j J hn x1 x2 x3
  refine ⟨s1, s2, b, j, ?_⟩
  obtain ⟨τ, N, C, R, J⟩ := J
  have c2 := (fn_ok J.moi.nok J.moi.tok.n (x1 := x1) (x2 := x2) (x3 := x3)).2
  have e := x_N_fn cs lim n M A.x x1 x2 x3 J.lay.mok s1
  exact m.move j J.lay.ma_0.1 e (by decide) (by decide) (fun g k c => c.ext e (by decide) (by decide)) J.moi.nok (c2.tg J.moi.nok)
theorem two_y (J : JY cs lim dE A (q + 1) σ M) (hn : 50 ≤ n) (x1 x2 x3 : Int32) : S_N_two cs lim n M A.x x1 x2 x3 ∧ S_Mo_two σ x1 x2 x3 ∧ Same2 (F_N_two cs n M A.x x1 x2 x3) (F_Mo_two σ x1 x2 x3) ∧ JY cs lim dE A q (F_Mo_two σ x1 x2 x3).2 (F_N_two cs n M A.x x1 x2 x3).2.2 := by
  obtain ⟨J, m⟩ := J
  obtain ⟨s1, s2, b, j⟩ := two_j J hn x1 x2 x3
  refine ⟨s1, s2, b, j, ?_⟩
  obtain ⟨τ, N, C, R, J⟩ := J
  have c2 := (two_ok J.moi.nok (x1 := x1) (x2 := x2) (x3 := x3)).2
  have e := x_N_two cs lim n M A.x x1 x2 x3 J.lay.mok s1
  exact m.move j J.lay.ma_0.1 e (by decide) (by decide) (fun g k c => c.ext e (by decide) (by decide)) J.moi.nok (c2.tg J.moi.nok)
theorem call_y (J : JY cs lim dE A (q + 1) σ M) (hn : 50 ≤ n) (x1 x2 : Int32) : S_N_call cs lim n M A.x x1 x2 ∧ S_Mo_call σ x1 x2 ∧ Same2 (F_N_call cs n M A.x x1 x2) (F_Mo_call σ x1 x2) ∧ JY cs lim dE A q (F_Mo_call σ x1 x2).2 (F_N_call cs n M A.x x1 x2).2.2 := by
  obtain ⟨J, m⟩ := J
  obtain ⟨s1, s2, b, j⟩ := call_j J hn x1 x2
  refine ⟨s1, s2, b, j, ?_⟩
  obtain ⟨τ, N, C, R, J⟩ := J
  have c2 := (call_ok J.moi.nok (x1 := x1) (x2 := x2)).2
  have e := x_N_call cs lim n M A.x x1 x2 J.lay.mok s1
  exact m.move j J.lay.ma_0.1 e (by decide) (by decide) (fun g k c => c.ext e (by decide) (by decide)) J.moi.nok (c2.tg J.moi.nok)
theorem perform_y (J : JY cs lim dE A (q + 1) σ M) (hn : 50 ≤ n) (x1 x2 : Int32) : S_N_perform cs lim n M A.x x1 x2 ∧ S_Mo_perform σ x1 x2 ∧ Same2 (F_N_perform cs n M A.x x1 x2) (F_Mo_perform σ x1 x2) ∧ JY cs lim dE A q (F_Mo_perform σ x1 x2).2 (F_N_perform cs n M A.x x1 x2).2.2 := by
  obtain ⟨J, m⟩ := J
  obtain ⟨s1, s2, b, j⟩ := perform_j J hn x1 x2
  refine ⟨s1, s2, b, j, ?_⟩
  obtain ⟨τ, N, C, R, J⟩ := J
  have c2 := (perform_ok J.moi.nok (x1 := x1) (x2 := x2)).2
  have e := x_N_perform cs lim n M A.x x1 x2 J.lay.mok s1
  exact m.move j J.lay.ma_0.1 e (by decide) (by decide) (fun g k c => c.ext e (by decide) (by decide)) J.moi.nok (c2.tg J.moi.nok)
theorem atom_y (J : JY cs lim dE A (q + 1) σ M) (hn : 50 ≤ n) (x1 x2 : Int32) : S_N_atom cs lim n M A.x x1 x2 ∧ S_Mo_atom σ x1 x2 ∧ Same2 (F_N_atom cs n M A.x x1 x2) (F_Mo_atom σ x1 x2) ∧ JY cs lim dE A q (F_Mo_atom σ x1 x2).2 (F_N_atom cs n M A.x x1 x2).2.2 := by
  obtain ⟨J, m⟩ := J
  obtain ⟨s1, s2, b, j⟩ := atom_j J hn x1 x2
  refine ⟨s1, s2, b, j, ?_⟩
  obtain ⟨τ, N, C, R, J⟩ := J
  have c2 := (atom_ok J.moi.nok (x1 := x1) (x2 := x2)).2
  have e := x_N_atom cs lim n M A.x x1 x2 J.lay.mok s1
  exact m.move j J.lay.ma_0.1 e (by decide) (by decide) (fun g k c => c.ext e (by decide) (by decide)) J.moi.nok (c2.tg J.moi.nok)
theorem clause_y (J : JY cs lim dE A (q + 1) σ M) (x1 x2 x3 x4 : Int32) : S_N_clause cs lim M A.x x1 x2 x3 x4 ∧ S_Mo_clause σ x1 x2 x3 x4 ∧ Same2 (F_N_clause cs M A.x x1 x2 x3 x4) (F_Mo_clause σ x1 x2 x3 x4) ∧ JY cs lim dE A q (F_Mo_clause σ x1 x2 x3 x4).2 (F_N_clause cs M A.x x1 x2 x3 x4).2.2 := by
  obtain ⟨J, m⟩ := J
  obtain ⟨s1, s2, b, j⟩ := clause_j J x1 x2 x3 x4
  refine ⟨s1, s2, b, j, ?_⟩
  obtain ⟨τ, N, C, R, J⟩ := J
  have c2 := (clause_ok J.moi.nok (x1 := x1) (x2 := x2) (x3 := x3) (x4 := x4)).2
  have e := x_N_clause cs lim M A.x x1 x2 x3 x4 J.lay.mok s1
  exact m.move j J.lay.ma_0.1 e (by decide) (by decide) (fun g k c => c.ext e (by decide) (by decide)) J.moi.nok (c2.tg J.moi.nok)
theorem handle_y (J : JY cs lim dE A (q + 1) σ M) (hn : 50 ≤ n) (x1 x2 x3 x4 : Int32) : S_N_handle cs lim n M A.x x1 x2 x3 x4 ∧ S_Mo_handle n σ x1 x2 x3 x4 ∧ Same2 (F_N_handle cs n M A.x x1 x2 x3 x4) (F_Mo_handle n σ x1 x2 x3 x4) ∧ JY cs lim dE A q (F_Mo_handle n σ x1 x2 x3 x4).2 (F_N_handle cs n M A.x x1 x2 x3 x4).2.2 := by
  obtain ⟨J, m⟩ := J
  obtain ⟨s1, s2, b, j⟩ := handle_j J hn x1 x2 x3 x4
  refine ⟨s1, s2, b, j, ?_⟩
  obtain ⟨τ, N, C, R, J⟩ := J
  have c2 := (handle_ok J.moi.nok hn (x1 := x1) (x2 := x2) (x3 := x3) (x4 := x4)).2
  have e := x_N_handle cs lim n M A.x x1 x2 x3 x4 J.lay.mok s1
  exact m.move j J.lay.ma_0.1 e (by decide) (by decide) (fun g k c => c.ext e (by decide) (by decide)) J.moi.nok (c2.tg J.moi.nok)
theorem effect_y (J : JY cs lim dE A (q + 1) σ M) (x1 x2 x3 : Int32) : S_N_effect cs lim M A.x x1 x2 x3 ∧ S_Mo_effect σ x1 x2 x3 ∧ (((F_N_effect cs M A.x x1 x2 x3).1 = 0 ∧ (F_Mo_effect σ x1 x2 x3).1 4 = 0) ∨ ((F_N_effect cs M A.x x1 x2 x3).1 = 1 ∧ (F_Mo_effect σ x1 x2 x3).1 4 = 1)) ∧ JY cs lim dE A q (F_Mo_effect σ x1 x2 x3) (F_N_effect cs M A.x x1 x2 x3).2 := by
  obtain ⟨J, m⟩ := J
  obtain ⟨s1, s2, b, j⟩ := effect_j J x1 x2 x3
  refine ⟨s1, s2, b, j, ?_⟩
  obtain ⟨τ, N, C, R, J⟩ := J
  obtain ⟨-, c2, c2'⟩ := effect_ok J.moi.tok.n J.moi.eok (x1 := x1) (x2 := x2) (x3 := x3)
  have e := x_N_effect cs lim M A.x x1 x2 x3 J.lay.mok s1
  have tg : Tg σ (F_Mo_effect σ x1 x2 x3) N C := by
    by_cases g : EfG (3 + τ.length) x1 x2 x3
    · rw [(c2' g).1]
      have a : ∀ k, k ≠ 24 → k ≠ 25 → (mo_ai (mo_ai (mo_si σ 4 0) 24 x1.toInt.toNat x2) 25 x1.toInt.toNat x3).2.2.1 k = σ.2.2.1 k := by
        intro k h1 h2; funext i; simp only [ai_3, si_2]; rw [if_neg (by omega), if_neg (by omega)]
      have f : ∀ k, k ≠ 4 → (mo_ai (mo_ai (mo_si σ 4 0) 24 x1.toInt.toNat x2) 25 x1.toInt.toNat x3).1 k = σ.1 k := fun k hk => by
        simp only [ai_1, si_1]; rw [if_neg hk]
      exact ⟨⟨fun k hk => f k (by omega), rfl, fun k i h1 h2 _ => by rw [a k (by omega) (by omega)], fun k i h1 h2 _ => by rw [a k (by omega) (by omega)], fun k hk => a k (by omega) (by omega), rfl⟩, by rw [f 0 (by omega)]; exact Int.le_refl _, by rw [f 1 (by omega)]; exact Int.le_refl _⟩
    · exact Tg.of (c2 g)
  exact m.move j J.lay.ma_0.1 e (by decide) (by decide) (fun g k c => c.ext e (by decide) (by decide)) J.moi.nok tg
theorem function_y (J : JY cs lim dE A (q + 1) σ M) (hn : 1500 ≤ n) (x1 x2 x3 : Int32) : S_N_function cs lim n M A.x x1 x2 x3 ∧ S_Mo_function n σ x1 x2 x3 ∧ Same2 (F_N_function cs n M A.x x1 x2 x3) (F_Mo_function n σ x1 x2 x3) ∧ JY cs lim dE A q (F_Mo_function n σ x1 x2 x3).2 (F_N_function cs n M A.x x1 x2 x3).2.2 := by
  obtain ⟨J, m⟩ := J
  obtain ⟨s1, s2, b, j⟩ := function_j J hn x1 x2 x3
  refine ⟨s1, s2, b, j, ?_⟩
  obtain ⟨τ, N, C, R, J⟩ := J
  have h60 := J.len
  obtain ⟨K, t, rm⟩ := J.kc.rm
  obtain ⟨-, c1⟩ := n_function J.lay t rm h60 (n := n) (by omega) x1 x2 x3
  obtain ⟨-, T', u1, u2, u3, u4⟩ := function_ok J.moi.tok (by omega) hn (x1 := x1) (x2 := x2) (x3 := x3)
  have e := x_N_function cs lim n M A.x x1 x2 x3 J.lay.mok s1
  have tg : Tg σ (F_Mo_function n σ x1 x2 x3).2 N C := ⟨⟨fun k hk => u4.f k (by omega) (by omega), u4.l, fun k i h1 h2 _ => by rw [u4.a k (by omega)], fun k i h1 h2 _ => by rw [u4.a k (by omega)], fun k hk => u4.a k (by omega), u4.ll⟩, by rw [u4.f 0 (by omega) (by omega)]; exact Int.le_refl _, by rw [u4.f 1 (by omega) (by omega)]; exact Int.le_refl _⟩
  have ge := gsk_ext J.lay.mok
  have c4 : ∀ g k, CeIs cs M A.c4 g k → CeIs cs (F_N_function cs n M A.x x1 x2 x3).2.2 A.c4 g k := by
    by_cases g : FuG (3 + τ.length) x1 x2 x3
    rotate_left
    · rw [(c1.no g).2]
      exact fun g k c => c.ext ge (by decide) (by decide)
    by_cases hl : (number τ (x1.toInt.toNat, x2.toInt.toNat, x3)).2.length ≤ 60
    rotate_left
    · rw [(c1.full g hl).2]
      exact fun g k c => c.ext ge (by decide) (by decide)
    obtain ⟨-, -, K', -, -, -, a6⟩ := c1.ok g hl
    exact a6
  exact m.move j J.lay.ma_0.1 e (by decide) (by decide) c4 J.moi.nok tg
theorem type_y (J : JY cs lim dE A (q + 1) σ M) (x1 x2 : Int32) : S_N_type cs lim M A.x x1 x2 ∧ S_Mo_type σ x1 x2 ∧ F_N_type cs M A.x x1 x2 = (F_Mo_type σ x1 x2).1 ∧ JY cs lim dE A q (F_Mo_type σ x1 x2).2 M := by
  obtain ⟨J, m⟩ := J
  obtain ⟨s1, s2, b, j⟩ := type_j J x1 x2
  obtain ⟨τ, N, C, R, J⟩ := J
  have h60 := J.len
  have e2 := (type_ok J.moi.tok.n (by omega) (x1 := x1) (x2 := x2)).2
  rw [e2] at j ⊢
  exact ⟨s1, s2, b, j, m.same j J.moi.nok⟩
theorem fits_y (J : JY cs lim dE A (q + 1) σ M) (x1 x2 : Int32) : S_N_fits cs lim M A.x x1 x2 ∧ S_Mo_fits σ x1 x2 ∧ F_N_fits cs M A.x x1 x2 = (F_Mo_fits σ x1 x2).1 ∧ JY cs lim dE A q (F_Mo_fits σ x1 x2).2 M := by
  obtain ⟨J, m⟩ := J
  obtain ⟨s1, s2, b, j⟩ := fits_j J x1 x2
  obtain ⟨τ, N, C, R, J⟩ := J
  have h60 := J.len
  have e2 := (fits_ok J.moi.tok.n (by omega) (x1 := x1) (x2 := x2)).2
  rw [e2] at j ⊢
  exact ⟨s1, s2, b, j, m.same j J.moi.nok⟩
theorem fault_y (J : JY cs lim dE A (q + 1) σ M) (x : Int32) : S_N_fault cs lim M A.x x ∧ S_Mo_fault σ x ∧ JY cs lim dE A q (F_Mo_fault σ x).2 M := by
  obtain ⟨J, m⟩ := J
  obtain ⟨s1, s2, j⟩ := fault_j J x
  obtain ⟨τ, N, C, R, J⟩ := J
  have e2 := (fault_S σ x).2
  rw [e2] at j ⊢
  exact ⟨s1, s2, j, m.same j J.moi.nok⟩
theorem McA.idle {X : Cx} {G : Nat → Int32} {k4 r1 r2 NF : Nat} {mk : Fr} {ut : Nat} (h : McA cs lim dE A r1 r2 NF X G k4 mk ut M σ) (h0 : σ.1 46 = 0) : Shw A M σ := by
  rcases h with ⟨h46, h4, h5, h6, h7, h8, h9⟩ | ⟨h, -⟩ | ⟨tk, h⟩
  · have n2 : ¬ (0 : Int32) = 2 := by decide
    have n4 : ¬ (0 : Int32) = 4 := by decide
    refine ⟨?_, ?_, ?_, ?_, ?_, ?_⟩
    · rw [h4, h46]
    · rw [h5, h46, if_neg n2]
    · rw [h6, if_pos h46]
    · rw [h7, if_pos h46]
    · rw [h8, if_pos h46]
    · rw [h9, h46, if_neg n4]
  · obtain ⟨S, μ, fa, ta, nf, nt, u, v, own, Lf, Wk, w, W, c, ⟨h4, h46⟩, st⟩ := h
    rw [h46] at h0
    exact absurd h0 (by decide)
  · obtain ⟨fa, ta, nf, nt, w, vs, n1, n0, -⟩ := h
    exact absurd h0 n0
theorem JM.shw (m : JM cs lim dE A M σ) : Shw A M σ := by
  obtain ⟨G, k4, X, ut, r1, r2, -, mc, -, ld⟩ := m
  rcases ld with ⟨l1, l2⟩ | l
  · exact mc.idle l2
  · exact mc.show l.f37 l.m3
theorem state_y (J : JY cs lim dE A (q + 1) σ M) (x : Int32) : S_N_state cs lim M A.x x ∧ S_Mo_state σ x ∧ F_N_state cs M A.x x = (F_Mo_state σ x).1 ∧ JY cs lim dE A q (F_Mo_state σ x).2 M := by
  obtain ⟨J, m⟩ := J
  obtain ⟨s1, s2, j⟩ := state_j J x
  obtain ⟨τ, N, C, R, J⟩ := J
  have e2 := (state_S σ x).2
  have b := m.shw.state (cs := cs) J.lay.x_ma.2 x
  rw [e2] at j ⊢
  exact ⟨s1, s2, b, j, m.same j J.moi.nok⟩
end
end
