-- pure rows: GD GE GF GG GH
section
/-! pure rows: the telling calls, class and reference together -/
def JX (cs : Nat → ClassId) (lim dE : Nat × Nat) (A : Ad) (q : Nat) (σ : mSt) (M : gMem) : Prop := ∃ τ N C R, JC cs lim dE A q σ τ N C R M
def Same2 (wc : Nat × Int32 × gMem) (wm : Int32 × mSt) : Prop := (wc.1 = 0 ∧ wm.2.1 4 = 0 ∧ wc.2.1 = wm.1) ∨ (wc.1 = 1 ∧ wm.2.1 4 = 1) ∨ (wc.1 = 2 ∧ wm.2.1 4 = 2)
theorem lt9 {k : Nat} (h : k < 9) : k = 0 ∨ k = 1 ∨ k = 2 ∨ k = 3 ∨ k = 4 ∨ k = 5 ∨ k = 6 ∨ k = 7 ∨ k = 8 := by omega
theorem nd0 (A : Nat → Nat → Int32) (i : Nat) : ndOf A i 0 = A 5 i := rfl
theorem nd1 (A : Nat → Nat → Int32) (i : Nat) : ndOf A i 1 = valOf A i := rfl
theorem nd2 (A : Nat → Nat → Int32) (i : Nat) : ndOf A i 2 = nameOf A i := rfl
theorem nd3 (A : Nat → Nat → Int32) (i : Nat) : ndOf A i 3 = ownOf A i := rfl
theorem nd4 (A : Nat → Nat → Int32) (i : Nat) : ndOf A i 4 = A 9 i := rfl
theorem nd5 (A : Nat → Nat → Int32) (i : Nat) : ndOf A i 5 = A 10 i := rfl
theorem nd6 (A : Nat → Nat → Int32) (i : Nat) : ndOf A i 6 = A 11 i := rfl
theorem nd7 (A : Nat → Nat → Int32) (i : Nat) : ndOf A i 7 = fromOf A i := rfl
theorem nd8 (A : Nat → Nat → Int32) (i : Nat) : ndOf A i 8 = toOf A i := rfl
section
variable {cs : Nat → ClassId} {lim dE : Nat × Nat} {A : Ad} {M : gMem} {q : Nat} {σ : mSt} {n : Nat}
theorem JX.of {P : Prop} {τ : TT} {C R : Nat} (h : P ∧ ∃ N', JC cs lim dE A q σ τ N' C R M) : P ∧ JX cs lim dE A q σ M := by
  obtain ⟨h1, N', h2⟩ := h
  exact ⟨h1, τ, N', C, R, h2⟩
theorem let_j (J : JX cs lim dE A (q + 1) σ M) (hn : 50 ≤ n) (x1 x2 x3 : Int32) : S_N_let cs lim n M A.x x1 x2 x3 ∧ S_Mo_let σ x1 x2 x3 ∧ Same2 (F_N_let cs n M A.x x1 x2 x3) (F_Mo_let σ x1 x2 x3) ∧ JX cs lim dE A q (F_Mo_let σ x1 x2 x3).2 (F_N_let cs n M A.x x1 x2 x3).2.2 := by
  obtain ⟨τ, N, C, R, J⟩ := J
  obtain ⟨s1, c1⟩ := n_let J.lay J.ns J.ndb J.kc.room hn x1 x2 x3
  obtain ⟨s2, c2⟩ := let_ok J.moi.nok (x1 := x1) (x2 := x2) (x3 := x3)
  have e := x_N_let cs lim n M A.x x1 x2 x3 J.lay.mok s1
  refine ⟨s1, s2, JX.of (J.told c1 c2 e (by decide) (by decide) (fun g hN => ?_))⟩
  obtain ⟨p, h6, h7, h8⟩ := let_x J.moi.nok hN g
  have h5 := p.k5
  have h9 := p.k9
  have h10 := p.k10
  have h11 := p.k11
  have hs := p.sx
  have hd := p.dx
  refine ⟨fun k hk => ?_, ?_, by rw [h5]; decide⟩
  · rcases lt9 hk with rfl | rfl | rfl | rfl | rfl | rfl | rfl | rfl | rfl
    all_goals simp [si_1, si_2, sl_1, sl_2, sl_3, ai_1, ai_2, ai_3, ai_4, al_1, al_2, al_3, al_4, nd0, nd1, nd2, nd3, nd4, nd5, nd6, nd7, nd8, valOf, nameOf, ownOf, fromOf, toOf, h5, h6, h7, h8, h9, h10, h11, updL, initL, upd]
  · rw [hs, hd]
    exact (ms_x (σ := σ) (a := x2) (b := x3) (c := -1)).symm
theorem rec_j (J : JX cs lim dE A (q + 1) σ M) (hn : 50 ≤ n) (x1 x2 x3 x4 x5 : Int32) : S_N_rec cs lim n M A.x x1 x2 x3 x4 x5 ∧ S_Mo_rec σ x1 x2 x3 x4 x5 ∧ Same2 (F_N_rec cs n M A.x x1 x2 x3 x4 x5) (F_Mo_rec σ x1 x2 x3 x4 x5) ∧ JX cs lim dE A q (F_Mo_rec σ x1 x2 x3 x4 x5).2 (F_N_rec cs n M A.x x1 x2 x3 x4 x5).2.2 := by
  obtain ⟨τ, N, C, R, J⟩ := J
  obtain ⟨s1, c1⟩ := n_rec J.lay J.ns J.ndb J.kc.cnt J.kc.room hn x1 x2 x3 x4 x5
  obtain ⟨s2, c2⟩ := rec_ok J.moi.nok J.moi.tok.n (x1 := x1) (x2 := x2) (x3 := x3) (x4 := x4) (x5 := x5)
  have e := x_N_rec cs lim n M A.x x1 x2 x3 x4 x5 J.lay.mok s1
  refine ⟨s1, s2, JX.of (J.told c1 c2 e (by decide) (by decide) (fun g hN => ?_))⟩
  obtain ⟨p, h6, h7, h8⟩ := rec_x J.moi.nok J.moi.tok.n hN g
  have h5 := p.k5
  have h9 := p.k9
  have h10 := p.k10
  have h11 := p.k11
  have hs := p.sx
  have hd := p.dx
  refine ⟨fun k hk => ?_, ?_, by rw [h5]; decide⟩
  · rcases lt9 hk with rfl | rfl | rfl | rfl | rfl | rfl | rfl | rfl | rfl
    all_goals simp [si_1, si_2, sl_1, sl_2, sl_3, ai_1, ai_2, ai_3, ai_4, al_1, al_2, al_3, al_4, nd0, nd1, nd2, nd3, nd4, nd5, nd6, nd7, nd8, valOf, nameOf, ownOf, fromOf, toOf, h5, h6, h7, h8, h9, h10, h11, updL, initL, upd]
  · rw [hs, hd]
    exact (ms_x (σ := σ) (a := x4) (b := x5) (c := -1)).symm
theorem choice_j (J : JX cs lim dE A (q + 1) σ M) (hn : 50 ≤ n) (x1 x2 x3 : Int32) : S_N_choice cs lim n M A.x x1 x2 x3 ∧ S_Mo_choice σ x1 x2 x3 ∧ Same2 (F_N_choice cs n M A.x x1 x2 x3) (F_Mo_choice σ x1 x2 x3) ∧ JX cs lim dE A q (F_Mo_choice σ x1 x2 x3).2 (F_N_choice cs n M A.x x1 x2 x3).2.2 := by
  obtain ⟨τ, N, C, R, J⟩ := J
  obtain ⟨s1, c1⟩ := n_choice J.lay J.ns J.ndb J.kc.room hn x1 x2 x3
  obtain ⟨s2, c2⟩ := choice_ok J.moi.nok (x1 := x1) (x2 := x2) (x3 := x3)
  have e := x_N_choice cs lim n M A.x x1 x2 x3 J.lay.mok s1
  refine ⟨s1, s2, JX.of (J.told c1 c2 e (by decide) (by decide) (fun g hN => ?_))⟩
  obtain ⟨p, h6, h7, h8⟩ := choice_x J.moi.nok hN g
  have h5 := p.k5
  have h9 := p.k9
  have h10 := p.k10
  have h11 := p.k11
  have hs := p.sx
  have hd := p.dx
  refine ⟨fun k hk => ?_, ?_, by rw [h5]; decide⟩
  · rcases lt9 hk with rfl | rfl | rfl | rfl | rfl | rfl | rfl | rfl | rfl
    all_goals simp [si_1, si_2, sl_1, sl_2, sl_3, ai_1, ai_2, ai_3, ai_4, al_1, al_2, al_3, al_4, nd0, nd1, nd2, nd3, nd4, nd5, nd6, nd7, nd8, valOf, nameOf, ownOf, fromOf, toOf, h5, h6, h7, h8, h9, h10, h11, updL, initL, upd]
  · rw [hs, hd]
    exact (ms_x (σ := σ) (a := x1) (b := x2) (c := x3)).symm
theorem fn_j (J : JX cs lim dE A (q + 1) σ M) (hn : 50 ≤ n) (x1 x2 x3 : Int32) : S_N_fn cs lim n M A.x x1 x2 x3 ∧ S_Mo_fn σ x1 x2 x3 ∧ Same2 (F_N_fn cs n M A.x x1 x2 x3) (F_Mo_fn σ x1 x2 x3) ∧ JX cs lim dE A q (F_Mo_fn σ x1 x2 x3).2 (F_N_fn cs n M A.x x1 x2 x3).2.2 := by
  obtain ⟨τ, N, C, R, J⟩ := J
  obtain ⟨s1, c1⟩ := n_fn J.lay J.ns J.ndb J.kc.cnt J.kc.room hn x1 x2 x3
  obtain ⟨s2, c2⟩ := fn_ok J.moi.nok J.moi.tok.n (x1 := x1) (x2 := x2) (x3 := x3)
  have e := x_N_fn cs lim n M A.x x1 x2 x3 J.lay.mok s1
  refine ⟨s1, s2, JX.of (J.told c1 c2 e (by decide) (by decide) (fun g hN => ?_))⟩
  obtain ⟨p, h6, h7, h8⟩ := fn_x J.moi.nok J.moi.tok.n hN g
  have h5 := p.k5
  have h9 := p.k9
  have h10 := p.k10
  have h11 := p.k11
  have hs := p.sx
  have hd := p.dx
  refine ⟨fun k hk => ?_, ?_, by rw [h5]; decide⟩
  · rcases lt9 hk with rfl | rfl | rfl | rfl | rfl | rfl | rfl | rfl | rfl
    all_goals simp [si_1, si_2, sl_1, sl_2, sl_3, ai_1, ai_2, ai_3, ai_4, al_1, al_2, al_3, al_4, nd0, nd1, nd2, nd3, nd4, nd5, nd6, nd7, nd8, valOf, nameOf, ownOf, fromOf, toOf, h5, h6, h7, h8, h9, h10, h11, updL, initL, upd]
  · rw [hs, hd]
    exact (ms_x (σ := σ) (a := x3) (b := -1) (c := -1)).symm
theorem two_j (J : JX cs lim dE A (q + 1) σ M) (hn : 50 ≤ n) (x1 x2 x3 : Int32) : S_N_two cs lim n M A.x x1 x2 x3 ∧ S_Mo_two σ x1 x2 x3 ∧ Same2 (F_N_two cs n M A.x x1 x2 x3) (F_Mo_two σ x1 x2 x3) ∧ JX cs lim dE A q (F_Mo_two σ x1 x2 x3).2 (F_N_two cs n M A.x x1 x2 x3).2.2 := by
  obtain ⟨τ, N, C, R, J⟩ := J
  obtain ⟨s1, c1⟩ := n_two J.lay J.ns J.ndb J.kc.room hn x1 x2 x3
  obtain ⟨s2, c2⟩ := two_ok J.moi.nok (x1 := x1) (x2 := x2) (x3 := x3)
  have e := x_N_two cs lim n M A.x x1 x2 x3 J.lay.mok s1
  refine ⟨s1, s2, JX.of (J.told c1 c2 e (by decide) (by decide) (fun g hN => ?_))⟩
  obtain ⟨p, h6, h7, h8⟩ := two_x J.moi.nok hN g
  have h5 := p.k5
  have h9 := p.k9
  have h10 := p.k10
  have h11 := p.k11
  have hs := p.sx
  have hd := p.dx
  refine ⟨fun k hk => ?_, ?_, by rw [h5]; decide⟩
  · rcases lt9 hk with rfl | rfl | rfl | rfl | rfl | rfl | rfl | rfl | rfl
    all_goals simp [si_1, si_2, sl_1, sl_2, sl_3, ai_1, ai_2, ai_3, ai_4, al_1, al_2, al_3, al_4, nd0, nd1, nd2, nd3, nd4, nd5, nd6, nd7, nd8, valOf, nameOf, ownOf, fromOf, toOf, h5, h6, h7, h8, h9, h10, h11, updL, initL, upd]
  · rw [hs, hd]
    exact (ms_x (σ := σ) (a := x2) (b := x3) (c := -1)).symm
theorem call_j (J : JX cs lim dE A (q + 1) σ M) (hn : 50 ≤ n) (x1 x2 : Int32) : S_N_call cs lim n M A.x x1 x2 ∧ S_Mo_call σ x1 x2 ∧ Same2 (F_N_call cs n M A.x x1 x2) (F_Mo_call σ x1 x2) ∧ JX cs lim dE A q (F_Mo_call σ x1 x2).2 (F_N_call cs n M A.x x1 x2).2.2 := by
  obtain ⟨τ, N, C, R, J⟩ := J
  obtain ⟨s1, c1⟩ := n_call J.lay J.ns J.ndb J.kc.room hn x1 x2
  obtain ⟨s2, c2⟩ := call_ok J.moi.nok (x1 := x1) (x2 := x2)
  have e := x_N_call cs lim n M A.x x1 x2 J.lay.mok s1
  refine ⟨s1, s2, JX.of (J.told c1 c2 e (by decide) (by decide) (fun g hN => ?_))⟩
  obtain ⟨p, h6, h7, h8⟩ := call_x J.moi.nok hN g
  have h5 := p.k5
  have h9 := p.k9
  have h10 := p.k10
  have h11 := p.k11
  have hs := p.sx
  have hd := p.dx
  refine ⟨fun k hk => ?_, ?_, by rw [h5]; decide⟩
  · rcases lt9 hk with rfl | rfl | rfl | rfl | rfl | rfl | rfl | rfl | rfl
    all_goals simp [si_1, si_2, sl_1, sl_2, sl_3, ai_1, ai_2, ai_3, ai_4, al_1, al_2, al_3, al_4, nd0, nd1, nd2, nd3, nd4, nd5, nd6, nd7, nd8, valOf, nameOf, ownOf, fromOf, toOf, h5, h6, h7, h8, h9, h10, h11, updL, initL, upd]
  · rw [hs, hd]
    exact (ms_x (σ := σ) (a := x1) (b := x2) (c := -1)).symm
theorem perform_j (J : JX cs lim dE A (q + 1) σ M) (hn : 50 ≤ n) (x1 x2 : Int32) : S_N_perform cs lim n M A.x x1 x2 ∧ S_Mo_perform σ x1 x2 ∧ Same2 (F_N_perform cs n M A.x x1 x2) (F_Mo_perform σ x1 x2) ∧ JX cs lim dE A q (F_Mo_perform σ x1 x2).2 (F_N_perform cs n M A.x x1 x2).2.2 := by
  obtain ⟨τ, N, C, R, J⟩ := J
  obtain ⟨s1, c1⟩ := n_perform J.lay J.ns J.ndb J.kc.room hn x1 x2
  obtain ⟨s2, c2⟩ := perform_ok J.moi.nok (x1 := x1) (x2 := x2)
  have e := x_N_perform cs lim n M A.x x1 x2 J.lay.mok s1
  refine ⟨s1, s2, JX.of (J.told c1 c2 e (by decide) (by decide) (fun g hN => ?_))⟩
  obtain ⟨p, h6, h7, h8⟩ := perform_x J.moi.nok hN g
  have h5 := p.k5
  have h9 := p.k9
  have h10 := p.k10
  have h11 := p.k11
  have hs := p.sx
  have hd := p.dx
  refine ⟨fun k hk => ?_, ?_, by rw [h5]; decide⟩
  · rcases lt9 hk with rfl | rfl | rfl | rfl | rfl | rfl | rfl | rfl | rfl
    all_goals simp [si_1, si_2, sl_1, sl_2, sl_3, ai_1, ai_2, ai_3, ai_4, al_1, al_2, al_3, al_4, nd0, nd1, nd2, nd3, nd4, nd5, nd6, nd7, nd8, valOf, nameOf, ownOf, fromOf, toOf, h5, h6, h7, h8, h9, h10, h11, updL, initL, upd]
  · rw [hs, hd]
    exact (ms_x (σ := σ) (a := x2) (b := -1) (c := -1)).symm
theorem atom_j (J : JX cs lim dE A (q + 1) σ M) (hn : 50 ≤ n) (x1 x2 : Int32) : S_N_atom cs lim n M A.x x1 x2 ∧ S_Mo_atom σ x1 x2 ∧ Same2 (F_N_atom cs n M A.x x1 x2) (F_Mo_atom σ x1 x2) ∧ JX cs lim dE A q (F_Mo_atom σ x1 x2).2 (F_N_atom cs n M A.x x1 x2).2.2 := by
  obtain ⟨τ, N, C, R, J⟩ := J
  obtain ⟨s1, c1⟩ := n_atom J.lay J.ns J.ndb J.kc.room hn x1 x2
  obtain ⟨s2, c2⟩ := atom_ok J.moi.nok (x1 := x1) (x2 := x2)
  have e := x_N_atom cs lim n M A.x x1 x2 J.lay.mok s1
  refine ⟨s1, s2, JX.of (J.told c1 c2 e (by decide) (by decide) (fun g hN => ?_))⟩
  obtain ⟨p, h6, h7, h8⟩ := atom_x J.moi.nok hN g
  have h5 := p.k5
  have h9 := p.k9
  have h10 := p.k10
  have h11 := p.k11
  have hs := p.sx
  have hd := p.dx
  have g4 : x1 = 0 ∨ x1 = 1 ∨ x1 = 2 ∨ x1 = 3 := by have := g.1; unfold Is at this; ((try (simp only [vp_in, Int32.toNatClampNeg, Int32.lt_iff_toInt_lt, Int32.le_iff_toInt_le, ← Int32.toInt_inj, Int32.toInt_add, Int32.toInt_sub, Int32.toInt_mul, Int32.reduceToInt, i32_neg1, Nat.reducePow, Int.reducePow, ne_eq, ge_iff_le, gt_iff_lt] at *)) <;> (first | omega | ((simp (disch := omega) only [bm32] at *) <;> omega)))
  refine ⟨fun k hk => ?_, ?_, ?_⟩
  · rcases g4 with rfl | rfl | rfl | rfl <;> rcases lt9 hk with rfl | rfl | rfl | rfl | rfl | rfl | rfl | rfl | rfl
    all_goals simp [si_1, si_2, sl_1, sl_2, sl_3, ai_1, ai_2, ai_3, ai_4, al_1, al_2, al_3, al_4, nd0, nd1, nd2, nd3, nd4, nd5, nd6, nd7, nd8, valOf, nameOf, ownOf, fromOf, toOf, h5, h6, h7, h8, h9, h10, h11, updL, initL, upd, atV]
  · have e4 : atV x1 x2 4 = -1 ∧ atV x1 x2 5 = -1 ∧ atV x1 x2 6 = -1 := by simp [si_1, si_2, sl_1, sl_2, sl_3, ai_1, ai_2, ai_3, ai_4, al_1, al_2, al_3, al_4, atV, updL, initL, upd]
    rw [hs, hd, e4.1, e4.2.1, e4.2.2]
    exact (ms_x (σ := σ) (a := -1) (b := -1) (c := -1)).symm
  · rw [h5]; rcases g4 with rfl | rfl | rfl | rfl <;> decide
end
end
section
/-! pure rows: clause and handle, class and reference together -/
theorem clause_x {σ : mSt} {N C R T : Nat} (h : NOk σ N C R T) (hC : C < 40) {x1 x2 x3 x4 : Int32} (g : ClG N x1 x2 x3 x4) : (F_Mo_clause σ x1 x2 x3 x4).2.2.2.1 16 C = x1 ∧ (F_Mo_clause σ x1 x2 x3 x4).2.2.2.1 17 C = x2 ∧ (F_Mo_clause σ x1 x2 x3 x4).2.2.2.1 18 C = x3 ∧ (F_Mo_clause σ x1 x2 x3 x4).2.2.2.1 19 C = x4 := by
  have h0 := h.n
  have hc := h.c
  obtain ⟨a, b, c, d⟩ := g
  have hc4 : ¬ σ.1 1 = 40 := by ((try (simp only [vp_in, Int32.toNatClampNeg, Int32.lt_iff_toInt_lt, Int32.le_iff_toInt_le, ← Int32.toInt_inj, Int32.toInt_add, Int32.toInt_sub, Int32.toInt_mul, Int32.reduceToInt, i32_neg1, Nat.reducePow, Int.reducePow, ne_eq, ge_iff_le, gt_iff_lt] at *)) <;> (first | omega | ((simp (disch := omega) only [bm32] at *) <;> omega)))
  have hcn : (σ.1 1).toNatClampNeg = C := by ((try (simp only [vp_in, Int32.toNatClampNeg, Int32.lt_iff_toInt_lt, Int32.le_iff_toInt_le, ← Int32.toInt_inj, Int32.toInt_add, Int32.toInt_sub, Int32.toInt_mul, Int32.reduceToInt, i32_neg1, Nat.reducePow, Int.reducePow, ne_eq, ge_iff_le, gt_iff_lt] at *)) <;> (first | omega | ((simp (disch := omega) only [bm32] at *) <;> omega)))
  have e1 : (mo_si σ 4 0).1 1 = σ.1 1 := rfl
  have e4 : (mo_si σ 4 0).1 4 = 0 := rfl
  simp only [F_Mo_clause, isEffect_F, isName_F, isNode_F h0, mbind_eq, if_pos a, if_pos b, if_pos c, if_pos d, if_neg hc4, if_neg (show ¬ (1 : Int32) = 0 by decide), F_Mo_clause_j49, ai_1, e1, e4, if_true, hcn]
  refine ⟨?_, ?_, ?_, ?_⟩ <;> simp [si_1, si_2, sl_1, sl_2, sl_3, ai_1, ai_2, ai_3, ai_4, al_1, al_2, al_3, al_4]
section
variable {cs : Nat → ClassId} {lim dE : Nat × Nat} {A : Ad} {M : gMem} {q : Nat} {σ : mSt} {n : Nat}
theorem clause_j (J : JX cs lim dE A (q + 1) σ M) (x1 x2 x3 x4 : Int32) : S_N_clause cs lim M A.x x1 x2 x3 x4 ∧ S_Mo_clause σ x1 x2 x3 x4 ∧ Same2 (F_N_clause cs M A.x x1 x2 x3 x4) (F_Mo_clause σ x1 x2 x3 x4) ∧ JX cs lim dE A q (F_Mo_clause σ x1 x2 x3 x4).2 (F_N_clause cs M A.x x1 x2 x3 x4).2.2 := by
  obtain ⟨τ, N, C, R, J⟩ := J
  obtain ⟨s1, c1⟩ := n_clause J.lay J.ns J.kc.room6 x1 x2 x3 x4
  obtain ⟨s2, c2⟩ := clause_ok J.moi.nok (x1 := x1) (x2 := x2) (x3 := x3) (x4 := x4)
  have e := x_N_clause cs lim M A.x x1 x2 x3 x4 J.lay.mok s1
  have L := J.lay
  have hC := J.moi.nok.hc
  have hR := J.moi.nok.hr
  refine ⟨s1, s2, ?_⟩
  by_cases g : ClG N x1 x2 x3 x4
  rotate_left
  · obtain ⟨a1, a2⟩ := c1.1 g
    have m1 := c2.1 g
    rw [a2, m1]
    exact ⟨Or.inr (Or.inl ⟨a1, by simp [si_1, si_2, sl_1, sl_2, sl_3, ai_1, ai_2, ai_3, ai_4, al_1, al_2, al_3, al_4, m1]⟩), τ, N, C, R, J.thrown 1⟩
  by_cases h40 : C < 40
  rotate_left
  · obtain ⟨a1, a2⟩ := c1.2.1 g (by omega)
    have m1 := c2.2.1 g (by omega)
    rw [a2, m1]
    exact ⟨Or.inr (Or.inr ⟨a1, by simp [si_1, si_2, sl_1, sl_2, sl_3, ai_1, ai_2, ai_3, ai_4, al_1, al_2, al_3, al_4, m1]⟩), τ, N, C, R, J.thrown 2⟩
  obtain ⟨a1, a2, a3, a4⟩ := c1.2.2 g h40
  obtain ⟨m1, m2, m3, m4, m5, m6⟩ := c2.2.2 g h40
  obtain ⟨z1, z2, z3, z4⟩ := clause_x J.moi.nok h40 g
  have kc := J.kc.keep e (by decide) (by decide) (by rw [a4]; omega) (by rw [a4]; omega)
  refine ⟨Or.inl ⟨a1, m2, Int32.toInt_inj.mp (by rw [m1, a2]; omega)⟩, τ, N, C + 1, R + 1, kc, ?_, ?_, J.rows, J.len, J.tx.congr (m4.f 3 (Or.inl rfl)) (fun k h1 h2 => m4.a k (by omega) (by omega) (by omega)), ?_, ?_, ?_⟩
  · rw [show C + 1 - (R + 1) = C - R by omega]
    refine a3.congr (fun i hi k hk => ndOf_congr (fun k h1 h2 => m4.nd k i h1 h2 hi) k) (fun j hj k hk => ?_)
    by_cases hjC : j = C
    · subst hjC
      simp only [if_true]
      rcases (show k = 0 ∨ k = 1 ∨ k = 2 ∨ k = 3 by omega) with rfl | rfl | rfl | rfl
      · exact z1
      · exact z2
      · exact z3
      · exact z4
    · simp only [if_neg hjC]
      exact cdOf_congr (fun k h1 h2 => m4.cl k j h1 h2 (by omega)) k hk
  · have := J.ef.ext L e (by decide)
    rw [m5, m6]
    exact this
  · obtain ⟨C', R', hm⟩ := J.moi.claused c2
    have e1 := hm.nok.c
    have e2 := m3.c
    have e3 := hm.nok.r
    have e4 := m3.r
    have hC' : C' = C + 1 := by omega
    have hR' : R' = R + 1 := by omega
    subst hC' hR'
    exact hm
  · intro i hi h8
    rw [m4.nd 5 i (by omega) (by omega) hi] at h8
    rw [m4.nd 7 i (by omega) (by omega) hi]
    exact J.hrow i hi h8
  · rw [e.xcI L.ma_0.1 (by decide), m4.f 36 (Or.inr (by omega))]
    exact J.ld
theorem handle_j (J : JX cs lim dE A (q + 1) σ M) (hn : 50 ≤ n) (x1 x2 x3 x4 : Int32) : S_N_handle cs lim n M A.x x1 x2 x3 x4 ∧ S_Mo_handle n σ x1 x2 x3 x4 ∧ Same2 (F_N_handle cs n M A.x x1 x2 x3 x4) (F_Mo_handle n σ x1 x2 x3 x4) ∧ JX cs lim dE A q (F_Mo_handle n σ x1 x2 x3 x4).2 (F_N_handle cs n M A.x x1 x2 x3 x4).2.2 := by
  obtain ⟨τ, N, C, R, J⟩ := J
  have hC := J.moi.nok.hc
  have hR := J.moi.nok.hr
  have hN200 := J.moi.nok.hn
  have hc1 := J.moi.nok.c
  have hr1 := J.moi.nok.r
  obtain ⟨s1, c1⟩ := n_handle J.lay J.ns J.ndb (fun j hj => Or.inr (J.moi.nok.cl j hj).b) J.kc.room hn x1 x2 x3 x4
  obtain ⟨s2, c2⟩ := handle_ok J.moi.nok hn (x1 := x1) (x2 := x2) (x3 := x3) (x4 := x4)
  have e := x_N_handle cs lim n M A.x x1 x2 x3 x4 J.lay.mok s1
  have L := J.lay
  have f6 := J.ns.f
  have f5 := J.ns.c
  refine ⟨s1, s2, ?_⟩
  by_cases g : HdG N x1 x2 x3 x4
  rotate_left
  · have g' : ¬ (Is N x1 ∧ Is 256 x2 ∧ Nm x3 ∧ Is N x4) := fun z => g ⟨z.2.2.1, z.1, z.2.2.2, z.2.1⟩
    obtain ⟨a1, a2⟩ := c1.1 g'
    have m1 := c2.1 g
    rw [a2, m1]
    exact ⟨Or.inr (Or.inl ⟨a1, by simp [si_1, si_2, sl_1, sl_2, sl_3, ai_1, ai_2, ai_3, ai_4, al_1, al_2, al_3, al_4, m1]⟩), τ, N, C, R, J.thrown 1⟩
  have g' : Is N x1 ∧ Is 256 x2 ∧ Nm x3 ∧ Is N x4 := ⟨g.2.1, g.2.2.2, g.1, g.2.2.1⟩
  by_cases hN : N < 200
  rotate_left
  · obtain ⟨a1, a2⟩ := c1.2.1 g' (by omega)
    have m1 := c2.2.1 g (by omega)
    rw [a2, m1]
    exact ⟨Or.inr (Or.inr ⟨a1, by simp [si_1, si_2, sl_1, sl_2, sl_3, ai_1, ai_2, ai_3, ai_4, al_1, al_2, al_3, al_4, m1]⟩), τ, N, C, R, J.thrown 2⟩
  obtain ⟨a1, a2, a3, a4⟩ := c1.2.2 g' hN
  obtain ⟨m1, m2, m3, m4, m5, m6⟩ := c2.2.2 g hN
  obtain ⟨h5, h6, h7, h9, h10, h11, h14, h15, hsd⟩ := handle_x J.moi.nok hN hn g
  obtain ⟨nd', n1, n2, n3, n4, n5⟩ := a3.is
  have kc := J.kc.keep e (by decide) (by decide) (by rw [a4]; omega) (by rw [a4]; omega)
  have e14 : cI M A.ns 6 = σ.1 1 - σ.1 2 := Int32.toInt_inj.mp (by rw [f6]; ((try (simp only [vp_in, Int32.toNatClampNeg, Int32.lt_iff_toInt_lt, Int32.le_iff_toInt_le, ← Int32.toInt_inj, Int32.toInt_add, Int32.toInt_sub, Int32.toInt_mul, Int32.reduceToInt, i32_neg1, Nat.reducePow, Int.reducePow, ne_eq, ge_iff_le, gt_iff_lt] at *)) <;> (first | omega | ((simp (disch := omega) only [bm32] at *) <;> omega))))
  have e15 : cI M A.ns 5 = σ.1 1 - σ.1 2 + σ.1 2 := Int32.toInt_inj.mp (by rw [f5]; ((try (simp only [vp_in, Int32.toNatClampNeg, Int32.lt_iff_toInt_lt, Int32.le_iff_toInt_le, ← Int32.toInt_inj, Int32.toInt_add, Int32.toInt_sub, Int32.toInt_mul, Int32.reduceToInt, i32_neg1, Nat.reducePow, Int.reducePow, ne_eq, ge_iff_le, gt_iff_lt] at *)) <;> (first | omega | ((simp (disch := omega) only [bm32] at *) <;> omega))))
  rw [show C - (C - R) = R by omega] at n4 n5
  simp only [updL, initL, upd, List.cons_append, List.nil_append] at n4 n5
  have q4 : (nd' N 9).toInt = Sz (F_Mo_handle n σ x1 x2 x3 x4).2 N := n4.trans (congrArg Prod.fst hsd).symm
  have q5 : (nd' N 10).toInt = Dp (F_Mo_handle n σ x1 x2 x3 x4).2 N := n5.trans (congrArg Prod.snd hsd).symm
  refine ⟨Or.inl ⟨a1, m2, Int32.toInt_inj.mp (a2.trans m1.symm)⟩, τ, N + 1, C, 0, kc, ?_, ?_, J.rows, J.len, J.tx.congr (m4.f 3 (Or.inl rfl)) (fun k h1 h2 => m4.a k (by omega) (by omega) (by omega)), ?_, ?_, ?_⟩
  · rw [Nat.sub_zero]
    refine n1.congr (fun i hi k hk => ?_) (fun j hj k hk => cdOf_congr (fun k h1 h2 => m4.cl k j h1 h2 hj) k hk)
    by_cases hiN : i = N
    · subst hiN
      by_cases h9k : k < 9
      · rw [n3 k h9k]
        rcases lt9 h9k with rfl | rfl | rfl | rfl | rfl | rfl | rfl | rfl | rfl
        all_goals simp [si_1, si_2, sl_1, sl_2, sl_3, ai_1, ai_2, ai_3, ai_4, al_1, al_2, al_3, al_4, nd0, nd1, nd2, nd3, nd4, nd5, nd6, nd7, nd8, valOf, nameOf, ownOf, fromOf, toOf, h5, h6, h7, h9, h10, h11, h14, h15, e14, e15, updL, initL, upd]
      · rcases (show k = 9 ∨ k = 10 by omega) with rfl | rfl
        · exact (Int32.toInt_inj.mp q4).symm
        · exact (Int32.toInt_inj.mp q5).symm
    · rw [n2 i (by omega)]
      exact ndOf_congr (fun k h1 h2 => m4.nd k i h1 h2 (by omega)) k
  · have := J.ef.ext L e (by decide)
    rw [m5, m6]
    exact this
  · obtain ⟨N', R', hm⟩ := J.moi.handled c2
    have e1 := hm.nok.n
    have e2 := m3.n
    have e3 := hm.nok.r
    have e4 := m3.r
    have hN' : N' = N + 1 := by omega
    have hR' : R' = 0 := by omega
    subst hN' hR'
    exact hm
  · intro i hi h8
    by_cases hiN : i = N
    · subst hiN
      rw [h7]
      have := g.2.2.2
      unfold Is at this
      exact this
    · rw [m4.nd 5 i (by omega) (by omega) (by omega)] at h8
      rw [m4.nd 7 i (by omega) (by omega) (by omega)]
      exact J.hrow i (by omega) h8
  · rw [e.xcI L.ma_0.1 (by decide), m4.f 36 (Or.inr (by omega))]
    exact J.ld
end
end
section
/-! pure rows: types and effects, class and reference together -/
section
variable {cs : Nat → ClassId} {lim dE : Nat × Nat} {A : Ad} {M : gMem} {q : Nat} {σ : mSt} {n : Nat}
theorem KC.rm {τ : TT} (k : KC cs lim dE A q τ M) : ∃ K, TyA cs A M τ K ∧ Rm lim M K := by
  obtain ⟨r1, r2, g4, k4, K, Fs, Ts, h, t, b1, b2, b3⟩ := k.hs
  have r := h.room
  have hK := t.Kb
  exact ⟨K, t, by omega, by omega⟩
theorem KC.types {τ τ' : TT} {M' : gMem} {r1 r2 k4 K K' : Nat} {g4 : Nat → Int32} {Fs Ts : Nat → Prop} (k : KC cs lim dE A (q + 1) τ M) (h : HS cs lim dE A r1 r2 103401 g4 k4 Fs Ts M) (t : TyA cs A M τ K) (b1 : k4 ≤ 16384) (b2 : 36000 + (q + 1) ≤ r1 + K + k4) (b3 : 120000 + 11 * (q + 1) ≤ r2 + 2 * K + 2 * k4) (e : Ext [(1, 4), (2, 0)] [(2, 0)] true M M') (t' : TyA cs A M' τ' K') (p : Pot M M' K K') (hc : ∀ g k, CeIs cs M A.c4 g k → CeIs cs M' A.c4 g k) : KC cs lim dE A q τ' M' := by
  have L := h.lay
  obtain ⟨p1, p2, p3⟩ := p
  have hK := t.Kb
  have hK' := t'.Kb
  obtain ⟨z1, z2, -⟩ := e.sz
  refine ⟨⟨r1 - (M'.2.1 - M.2.1), r2 - (M'.2.2 - M.2.2), g4, k4, K', Fs, Ts, h.step e (by decide) (by decide) (hc _ _ h.c4) (by omega) (by omega), t', b1, by omega, by omega⟩, ?_, ?_⟩
  · have e4 : cI M' A.ma 4 = cI M A.ma 4 := e.xcI L.ma_0.1 (by decide)
    rw [e4]
    rcases k.mb with z | z
    · exact Or.inl z
    · exact Or.inr ((z.ext L e (by decide)).more (by omega))
  · have e2 : cI M' A.co 2 = cI M A.co 2 := e.xcI L.co_0.1 (by decide)
    rw [e2]
    exact k.co
theorem function_j (J : JX cs lim dE A (q + 1) σ M) (hn : 1500 ≤ n) (x1 x2 x3 : Int32) : S_N_function cs lim n M A.x x1 x2 x3 ∧ S_Mo_function n σ x1 x2 x3 ∧ Same2 (F_N_function cs n M A.x x1 x2 x3) (F_Mo_function n σ x1 x2 x3) ∧ JX cs lim dE A q (F_Mo_function n σ x1 x2 x3).2 (F_N_function cs n M A.x x1 x2 x3).2.2 := by
  obtain ⟨τ, N, C, R, J⟩ := J
  have L := J.lay
  have h60 := J.len
  obtain ⟨r1, r2, g4, k4, K, Fs, Ts, hh, t, b1, b2, b3⟩ := J.kc.hs
  have hro := hh.room
  have hKb := t.Kb
  have rm : Rm lim M K := ⟨by omega, by omega⟩
  obtain ⟨s1, c1⟩ := n_function L t rm h60 (n := n) (by omega) x1 x2 x3
  obtain ⟨s2, T', u1, u2, u3, u4⟩ := function_ok J.moi.tok (by omega) hn (x1 := x1) (x2 := x2) (x3 := x3)
  have c2 := function_x J.tx h60 hn (x1 := x1) (x2 := x2) (x3 := x3)
  refine ⟨s1, s2, ?_⟩
  by_cases g : FuG (3 + τ.length) x1 x2 x3
  rotate_left
  · obtain ⟨a1, a2⟩ := c1.no g
    have m1 := c2.no g
    rw [a2, m1]
    exact ⟨Or.inr (Or.inl ⟨a1, by simp [si_1, si_2, sl_1, sl_2, sl_3, ai_1, ai_2, ai_3, ai_4, al_1, al_2, al_3, al_4, m1]⟩), τ, N, C, R, J.thrown 1⟩
  by_cases hl : (number τ (x1.toInt.toNat, x2.toInt.toNat, x3)).2.length ≤ 60
  rotate_left
  · obtain ⟨a1, a2⟩ := c1.full g hl
    have m1 := c2.full g hl
    rw [a2, m1]
    exact ⟨Or.inr (Or.inr ⟨a1, by simp [si_1, si_2, sl_1, sl_2, sl_3, ai_1, ai_2, ai_3, ai_4, al_1, al_2, al_3, al_4, m1]⟩), τ, N, C, R, J.thrown 2⟩
  obtain ⟨a1, a2, K', a3, a4, a5, a6⟩ := c1.ok g hl
  obtain ⟨m1, m2, m3⟩ := c2.ok g hl
  have kc : KC cs lim dE A q (number τ (x1.toInt.toNat, x2.toInt.toNat, x3)).2 (F_N_function cs n M A.x x1 x2 x3).2.2 := J.kc.types hh t b1 b2 b3 a4 a3 a5 a6
  have mi := (J.moi.function hn (x1 := x1) (x2 := x2) (x3 := x3)).2
  refine ⟨Or.inl ⟨a1, m2, Int32.toInt_inj.mp (a2.trans m1.symm)⟩, (number τ (x1.toInt.toNat, x2.toInt.toNat, x3)).2, N, C, R, kc, ?_, ?_, ?_, hl, m3, ?_, ?_, ?_⟩
  · refine (J.ns.ext L a4 (by decide) (by decide) (by decide)).congr (fun i hi k hk => ndOf_congr (fun k h1 h2 => by rw [u4.a k (by omega)]) k) (fun j hj k hk => cdOf_congr (fun k h1 h2 => by rw [u4.a k (by omega)]) k hk)
  · have := J.ef.ext L a4 (by decide)
    rw [u4.a 24 (by omega), u4.a 25 (by omega)]
    exact this
  · intro y hy
    rcases (number_pre (τ := τ) (x := (x1.toInt.toNat, x2.toInt.toNat, x3))).2.2.2 y hy with z | z
    · exact J.rows y z
    · rw [z]
      have := g.2.2
      unfold Is at this
      exact this
  · obtain ⟨T2, -, hm⟩ := mi
    have e1 := hm.tok.n
    have e2 := m3.ok.n
    have : T2 = 3 + (number τ (x1.toInt.toNat, x2.toInt.toNat, x3)).2.length := by omega
    subst this
    exact hm
  · intro i hi h8
    rw [u4.a 5 (by omega)] at h8
    rw [u4.a 7 (by omega)]
    exact J.hrow i hi h8
  · rw [a4.xcI L.ma_0.1 (by decide), u4.f 36 (by omega) (by omega)]
    exact J.ld
theorem effect_j (J : JX cs lim dE A (q + 1) σ M) (x1 x2 x3 : Int32) : S_N_effect cs lim M A.x x1 x2 x3 ∧ S_Mo_effect σ x1 x2 x3 ∧ (((F_N_effect cs M A.x x1 x2 x3).1 = 0 ∧ (F_Mo_effect σ x1 x2 x3).1 4 = 0) ∨ ((F_N_effect cs M A.x x1 x2 x3).1 = 1 ∧ (F_Mo_effect σ x1 x2 x3).1 4 = 1)) ∧ JX cs lim dE A q (F_Mo_effect σ x1 x2 x3) (F_N_effect cs M A.x x1 x2 x3).2 := by
  obtain ⟨τ, N, C, R, J⟩ := J
  have L := J.lay
  obtain ⟨s1, c1, c1'⟩ := n_eff L J.kc.cnt J.ef J.kc.room6 x1 x2 x3
  obtain ⟨s2, c2, c2'⟩ := effect_ok J.moi.tok.n J.moi.eok (x1 := x1) (x2 := x2) (x3 := x3)
  have e := x_N_effect cs lim M A.x x1 x2 x3 L.mok s1
  have mi := (J.moi.effect (x1 := x1) (x2 := x2) (x3 := x3)).2
  refine ⟨s1, s2, ?_⟩
  by_cases g : EfG (3 + τ.length) x1 x2 x3
  rotate_left
  · obtain ⟨a1, a2⟩ := c1 g
    have m1 := c2 g
    rw [a2, m1]
    exact ⟨Or.inr ⟨a1, by simp [si_1, si_2, sl_1, sl_2, sl_3, ai_1, ai_2, ai_3, ai_4, al_1, al_2, al_3, al_4]⟩, τ, N, C, R, J.thrown 1⟩
  obtain ⟨a1, a2, a3⟩ := c1' g
  obtain ⟨m1, m2⟩ := c2' g
  have kc := J.kc.keep e (by decide) (by decide) (by rw [a3]; omega) (by rw [a3]; omega)
  rw [m1] at mi ⊢
  have ns' : ∀ k, k ≠ 24 → k ≠ 25 → (mo_ai (mo_ai (mo_si σ 4 0) 24 x1.toInt.toNat x2) 25 x1.toInt.toNat x3).2.2.1 k = σ.2.2.1 k := fun k h1 h2 => by
    funext i
    rw [ai_3, if_neg (by omega), ai_3, if_neg (by omega), si_2]
  refine ⟨Or.inl ⟨a1, by simp [si_1, si_2, sl_1, sl_2, sl_3, ai_1, ai_2, ai_3, ai_4, al_1, al_2, al_3, al_4]⟩, τ, N, C, R, kc, ?_, ?_, J.rows, J.len, J.tx.congr (by simp [si_1, si_2, sl_1, sl_2, sl_3, ai_1, ai_2, ai_3, ai_4, al_1, al_2, al_3, al_4]) (fun k h1 h2 => ns' k (by omega) (by omega)), mi, ?_, ?_⟩
  · exact (J.ns.ext L e (by decide) (by decide) (by decide)).congr (fun i hi k hk => ndOf_congr (fun k h1 h2 => by rw [ns' k (by omega) (by omega)]) k) (fun j hj k hk => cdOf_congr (fun k h1 h2 => by rw [ns' k (by omega) (by omega)]) k hk)
  · intro i hi
    obtain ⟨z1, z2⟩ := a2 i hi
    rw [z1, z2]
    constructor
    · rw [ai_3, if_neg (by omega), ai_3]
      unfold upd
      by_cases hie : i = x1.toInt.toNat
      · rw [if_pos hie, if_pos ⟨rfl, hie⟩]
      · rw [if_neg hie, if_neg (fun z => hie z.2), si_2]
    · rw [ai_3]
      unfold upd
      by_cases hie : i = x1.toInt.toNat
      · rw [if_pos hie, if_pos ⟨rfl, hie⟩]
      · rw [if_neg hie, if_neg (fun z => hie z.2), ai_3, if_neg (by omega), si_2]
  · intro i hi h8
    rw [ns' 5 (by omega) (by omega)] at h8
    rw [ns' 7 (by omega) (by omega)]
    exact J.hrow i hi h8
  · rw [e.xcI L.ma_0.1 (by decide)]
    simp only [ai_1, si_1]
    exact J.ld
theorem type_j (J : JX cs lim dE A (q + 1) σ M) (x1 x2 : Int32) : S_N_type cs lim M A.x x1 x2 ∧ S_Mo_type σ x1 x2 ∧ F_N_type cs M A.x x1 x2 = (F_Mo_type σ x1 x2).1 ∧ JX cs lim dE A q (F_Mo_type σ x1 x2).2 M := by
  obtain ⟨τ, N, C, R, J⟩ := J
  have L := J.lay
  have h60 := J.len
  obtain ⟨K, t, rm⟩ := J.kc.rm
  obtain ⟨s1, c1, c2⟩ := n_type_ (lim := lim) L t x1 x2
  have hT := J.moi.tok.n
  obtain ⟨s2, e2⟩ := type_ok hT (by omega) (x1 := x1) (x2 := x2)
  refine ⟨s1, s2, ?_, by rw [e2]; exact ⟨τ, N, C, R, J.mark 0⟩⟩
  have e3 : (mo_si σ 4 0).1 3 = σ.1 3 := rfl
  by_cases g : FnT (3 + τ.length) x1
  rotate_left
  · rw [c1 g]
    simp only [F_Mo_type, e3]
    by_cases a : x1 < 3
    · simp only [if_pos a]
    simp only [if_neg a]
    by_cases b : x1 < σ.1 3
    · exact absurd (by unfold FnT; ((try (simp only [vp_in, Int32.toNatClampNeg, Int32.lt_iff_toInt_lt, Int32.le_iff_toInt_le, ← Int32.toInt_inj, Int32.toInt_add, Int32.toInt_sub, Int32.toInt_mul, Int32.reduceToInt, i32_neg1, Nat.reducePow, Int.reducePow, ne_eq, ge_iff_le, gt_iff_lt] at *)) <;> (first | omega | ((simp (disch := omega) only [bm32] at *) <;> omega)))) g
    · simp only [if_neg b]
  obtain ⟨d0, d1, d2, d3⟩ := c2 g
  have g' := g
  unfold FnT at g'
  have a : ¬ x1 < 3 := by ((try (simp only [vp_in, Int32.toNatClampNeg, Int32.lt_iff_toInt_lt, Int32.le_iff_toInt_le, ← Int32.toInt_inj, Int32.toInt_add, Int32.toInt_sub, Int32.toInt_mul, Int32.reduceToInt, i32_neg1, Nat.reducePow, Int.reducePow, ne_eq, ge_iff_le, gt_iff_lt] at *)) <;> (first | omega | ((simp (disch := omega) only [bm32] at *) <;> omega)))
  have b : x1 < σ.1 3 := by ((try (simp only [vp_in, Int32.toNatClampNeg, Int32.lt_iff_toInt_lt, Int32.le_iff_toInt_le, ← Int32.toInt_inj, Int32.toInt_add, Int32.toInt_sub, Int32.toInt_mul, Int32.reduceToInt, i32_neg1, Nat.reducePow, Int.reducePow, ne_eq, ge_iff_le, gt_iff_lt] at *)) <;> (first | omega | ((simp (disch := omega) only [bm32] at *) <;> omega)))
  have hx : x1.toNatClampNeg = x1.toInt.toNat := rfl
  have xa := J.tx.a x1.toInt.toNat (by omega) (by omega)
  have xr := J.tx.r x1.toInt.toNat (by omega) (by omega)
  have xw := J.tx.w x1.toInt.toNat (by omega) (by omega)
  simp only [F_Mo_type, e3, if_neg a, if_pos b, hx, si_2]
  by_cases z0 : x2 = 0
  · simp only [if_pos z0]
    exact Int32.toInt_inj.mp ((d0 z0).trans xa.symm)
  simp only [if_neg z0]
  by_cases z1 : x2 = 1
  · simp only [if_pos z1]
    exact Int32.toInt_inj.mp ((d1 z1).trans xr.symm)
  simp only [if_neg z1]
  by_cases z2 : x2 = 2
  · simp only [if_pos z2]
    exact (d2 z2).trans xw.symm
  simp only [if_neg z2]
  exact d3 z0 z1 z2
theorem fits_j (J : JX cs lim dE A (q + 1) σ M) (x1 x2 : Int32) : S_N_fits cs lim M A.x x1 x2 ∧ S_Mo_fits σ x1 x2 ∧ F_N_fits cs M A.x x1 x2 = (F_Mo_fits σ x1 x2).1 ∧ JX cs lim dE A q (F_Mo_fits σ x1 x2).2 M := by
  obtain ⟨τ, N, C, R, J⟩ := J
  have L := J.lay
  have h60 := J.len
  obtain ⟨K, t, rm⟩ := J.kc.rm
  obtain ⟨s1, c1⟩ := n_fits (lim := lim) L t x1 x2
  have hT := J.moi.tok.n
  have hT' : ((mo_si σ 4 0).1 3).toInt = (3 + τ.length : Nat) := hT
  obtain ⟨s2, e2⟩ := fits_ok hT (by omega) (x1 := x1) (x2 := x2)
  refine ⟨s1, s2, ?_, by rw [e2]; exact ⟨τ, N, C, R, J.mark 0⟩⟩
  have n1 : ¬ (1 : Int32) = 0 := by decide
  by_cases a : Is (3 + τ.length) x1
  rotate_left
  · simp only [F_Mo_fits, isType_F hT', mbind_eq, if_neg a, if_true]
    rcases c1 with ⟨-, z, -⟩ | ⟨z, -⟩
    · exact absurd z a
    · exact z
  by_cases b : Is (3 + τ.length) x2
  rotate_left
  · simp only [F_Mo_fits, isType_F hT', mbind_eq, if_pos a, if_neg n1, if_neg b, if_true]
    rcases c1 with ⟨-, -, z, -⟩ | ⟨z, -⟩
    · exact absurd z b
    · exact z
  have a' := a
  have b' := b
  unfold Is at a' b'
  have hi := (ix520 (x := x1) (y := x2) (by omega) (by omega)).1
  have hf := J.tx.fit (a := x1.toInt.toNat) (b := x2.toInt.toNat) (by omega) (by omega)
  simp only [F_Mo_fits, isType_F hT', mbind_eq, if_pos a, if_neg n1, if_pos b, hi, si_2]
  by_cases z : σ.2.2.1 23 (520 * x1.toInt.toNat + x2.toInt.toNat) = 0
  · simp only [if_pos z]
    rcases c1 with ⟨-, -, -, y⟩ | ⟨y, -⟩
    · exact absurd z (hf.mpr y)
    · exact y
  · simp only [if_neg z]
    rcases c1 with ⟨y, -⟩ | ⟨-, y⟩
    · exact y
    · exact absurd ⟨a, b, hf.mp z⟩ y
theorem fault_j (J : JX cs lim dE A (q + 1) σ M) (x : Int32) : S_N_fault cs lim M A.x x ∧ S_Mo_fault σ x ∧ JX cs lim dE A q (F_Mo_fault σ x).2 M := by
  obtain ⟨τ, N, C, R, J⟩ := J
  have L := J.lay
  obtain ⟨s2, e2⟩ := fault_S σ x
  refine ⟨?_, s2, by rw [e2]; exact ⟨τ, N, C, R, J.mark 0⟩⟩
  have p : cOk 0 M A.x ∧ cOq 6 M (cQ M A.x 4) ∧ True := ⟨L.x_ck.1, ⟨A.ck, L.x_ck.2, L.ck_0.1⟩, trivial⟩
  unfold S_N_fault
  split
  · exact p
  split
  · exact p
  split
  · exact p
  trivial
theorem state_j (J : JX cs lim dE A (q + 1) σ M) (x : Int32) : S_N_state cs lim M A.x x ∧ S_Mo_state σ x ∧ JX cs lim dE A q (F_Mo_state σ x).2 M := by
  obtain ⟨τ, N, C, R, J⟩ := J
  have L := J.lay
  obtain ⟨s2, e2⟩ := state_S σ x
  refine ⟨?_, s2, by rw [e2]; exact ⟨τ, N, C, R, J.mark 0⟩⟩
  have p : cOk 0 M A.x ∧ cOq 8 M (cQ M A.x 6) ∧ True := ⟨L.x_ma.1, ⟨A.ma, L.x_ma.2, L.ma_0.1⟩, trivial⟩
  unfold S_N_state
  split
  · exact p
  split
  · exact p
  split
  · exact p
  split
  · exact p
  split
  · exact p
  split
  · exact p
  trivial
end
end
section
/-! pure rows: the program is cleared, begun, run -/
section
variable {cs : Nat → ClassId} {lim dE : Nat × Nat} {A : Ad} {M : gMem} {q : Nat} {σ : mSt} {n : Nat}
theorem KC.machine {τ : TT} {M' : gMem} {W V : List (Nat × Nat)} {r1 r2 k4 K : Nat} {g4 : Nat → Int32} {Fs' Ts' : Nat → Prop} (k : KC cs lim dE A (q + 1) τ M) (L : Lay cs A M) (t : TyA cs A M τ K) (b1 : k4 ≤ 16384) (b2 : 36000 + (q + 1) ≤ r1 + K + k4) (b3 : 120000 + 11 * (q + 1) ≤ r2 + 2 * K + 2 * k4) (e : Ext W V true M M') (h' : HS cs lim dE A r1 r2 103401 g4 k4 Fs' Ts' M') (w14 : W.contains (1, 4) = false) (w20 : W.contains (2, 0) = false) (w72 : W.contains (7, 2) = false) (v20 : V.contains (2, 0) = false) (mb : cI M' A.ma 4 = 0 ∨ MB A ((200 * (512 - q) : Nat) : Int) M') : KC cs lim dE A q τ M' := by
  refine ⟨⟨r1, r2, g4, k4, K, Fs', Ts', h', t.ext L e w14 w20 v20, b1, by omega, by omega⟩, mb, ?_⟩
  have e2 : cI M' A.co 2 = cI M A.co 2 := e.xcI L.co_0.1 (fun z => by rw [List.contains_iff_mem.mpr z] at w72; cases w72)
  rw [e2]
  exact k.co
theorem begin_a' (σ : mSt) : (F_Mo_begin σ).2.2.1 = σ.2.2.1 := rfl
theorem start_j (J : JX cs lim dE A (q + 1) σ M) : S_N_start cs lim dE M A.x ∧ S_Mo_start σ ∧ (((F_N_start cs dE M A.x).1 = 0 ∧ (F_Mo_start σ).1 4 = 0) ∨ ((F_N_start cs dE M A.x).1 = 2 ∧ (F_Mo_start σ).1 4 = 1)) ∧ JX cs lim dE A q (F_Mo_start σ) (F_N_start cs dE M A.x).2 := by
  obtain ⟨τ, N, C, R, J⟩ := J
  have L := J.lay
  obtain ⟨s2, mi⟩ := J.moi.start
  have o0 := L.x_ma.1
  have om : cOq 8 M (cQ M A.x 6) := ⟨A.ma, L.x_ma.2, L.ma_0.1⟩
  have hl := J.kc.room6
  by_cases h36 : σ.1 36 = -1
  · have c0 : cI M A.ma 2 = 0 := J.ld.mpr h36
    have eS : F_Mo_start σ = mo_si σ 4 1 := by
      simp (decide := true) only [F_Mo_start, if_pos h36, F_Mo_start_j14, si_1, if_true, if_false]
    have eC : F_N_start cs dE M A.x = (2, gsk M) := by
      unfold F_N_start
      rw [L.x_ma.2]
      simp only [Option.getD_some, if_pos c0]
    refine ⟨?_, s2, ?_⟩
    · unfold S_N_start
      refine ⟨o0, om, ?_⟩
      rw [L.x_ma.2]
      simp only [Option.getD_some, if_pos c0]
      exact ⟨hl, trivial⟩
    · rw [eS, eC]
      exact ⟨Or.inr ⟨rfl, by simp [si_1, si_2, sl_1, sl_2, sl_3, ai_1, ai_2, ai_3, ai_4, al_1, al_2, al_3, al_4]⟩, τ, N, C, R, J.thrown 1⟩
  · have c0 : ¬ cI M A.ma 2 = 0 := fun z => h36 (J.ld.mp z)
    obtain ⟨r1, r2, g4, k4, K, Fs, Ts, hh, t, b1, b2, b3⟩ := J.kc.hs
    obtain ⟨sb, Fs', h', m', v4⟩ := ma_begin hh (by decide)
    have e := x_Ma_begin cs lim dE M A.ma L.mok sb
    have eS : F_Mo_start σ = F_Mo_begin (mo_si σ 4 0) := by
      simp (decide := true) only [F_Mo_start, if_neg h36, F_Mo_start_j14, si_1, if_true, mbind_eq]
    have eC : F_N_start cs dE M A.x = (0, F_Ma_begin cs dE M A.ma) := by
      unfold F_N_start
      rw [L.x_ma.2]
      simp only [Option.getD_some, if_neg c0, mbind_eq]
    refine ⟨?_, s2, ?_⟩
    · unfold S_N_start
      refine ⟨o0, om, ?_⟩
      rw [L.x_ma.2]
      simp only [Option.getD_some, if_neg c0, mbind_eq]
      exact ⟨o0, ⟨A.ma, rfl, L.ma_0.1⟩, sb, trivial⟩
    · rw [eS] at mi
      rw [eS, eC]
      have f : ∀ k, k < 44 → (F_Mo_begin (mo_si σ 4 0)).1 k = (mo_si σ 4 0).1 k := fun k hk => begin_f hk
      have kc : KC cs lim dE A q τ (F_Ma_begin cs dE M A.ma) := J.kc.machine L t b1 b2 b3 e h' (by decide) (by decide) (by decide) (by decide) (Or.inr (m'.more (by omega)))
      refine ⟨Or.inl ⟨rfl, by rw [f 4 (by omega)]; rfl⟩, τ, N, C, R, kc, J.ns.ext L e (by decide) (by decide) (by decide), J.ef.ext L e (by decide), J.rows, J.len, J.tx.congr (f 3 (by omega)) (fun _ _ _ => rfl), mi, J.hrow, ?_⟩
      rw [f 36 (by omega)]
      show cI (F_Ma_begin cs dE M A.ma) A.ma 2 = 0 ↔ _
      rw [e.xcI L.ma_0.1 (by decide)]
      exact J.ld
theorem run_j (J : JX cs lim dE A (q + 1) σ M) (hq : q + 1 ≤ 512) {n2 : Nat} (hn : 4100000 ≤ n) (hn2 : 11000000000 ≤ n2) (x : Int32) : S_N_run cs lim dE n M A.x x ∧ S_Mo_run n2 σ x ∧ ((F_N_run cs dE n M A.x x).1 = 0 ∨ (F_N_run cs dE n M A.x x).1 = 2 ∨ (F_N_run cs dE n M A.x x).1 = 3) ∧ JX cs lim dE A q (F_Mo_run n2 σ x).2 (F_N_run cs dE n M A.x x).2.2 := by
  obtain ⟨τ, N, C, R, J⟩ := J
  have L := J.lay
  obtain ⟨s2, mi⟩ := J.moi.run hn2 (x := x)
  obtain ⟨-, ⟨z, fr⟩, -⟩ := run_ok J.moi.mach hn2 (x := x)
  have o0 := L.x_ma.1
  have om : cOq 8 M (cQ M A.x 6) := ⟨A.ma, L.x_ma.2, L.ma_0.1⟩
  have hl := J.kc.room6
  have fin : ∀ M', KC cs lim dE A q τ M' → NsIs A M' N C (C - R) (ndOf σ.2.2.1) (cdOf σ.2.2.1) → EfIs A M' (σ.2.2.1 24) (σ.2.2.1 25) → cI M' A.ma 2 = cI M A.ma 2 → JX cs lim dE A q (F_Mo_run n2 σ x).2 M' := fun M' kc ns ef e2 => by
    have fa : ∀ k, k < 40 → (F_Mo_run n2 σ x).2.2.2.1 k = σ.2.2.1 k := fun k hk => fr.a k hk
    refine ⟨τ, N, C, R, kc, ns.congr (fun i hi k hk => ndOf_congr (fun k h1 h2 => by rw [fa k (by omega)]) k) (fun j hj k hk => cdOf_congr (fun k h1 h2 => by rw [fa k (by omega)]) k hk), ?_, J.rows, J.len, J.tx.congr (fr.f 3 (by omega)) (fun k h1 h2 => fa k (by omega)), mi, ?_, ?_⟩
    · rw [fa 24 (by omega), fa 25 (by omega)]; exact ef
    · intro i hi h8
      rw [fa 5 (by omega)] at h8
      rw [fa 7 (by omega)]
      exact J.hrow i hi h8
    · rw [e2, fr.f 36 (by omega)]
      exact J.ld
  have ge := gsk_ext L.mok
  have bad : JX cs lim dE A q (F_Mo_run n2 σ x).2 (gsk M) := fin _ J.kc.thrown (J.ns.ext L ge (by decide) (by decide) (by decide)) (J.ef.ext L ge (by decide)) (ge.xcI L.ma_0.1 (by decide))
  unfold S_N_run F_N_run
  rw [L.x_ma.2] at om ⊢
  simp only [Option.getD_some, mbind_eq]
  by_cases h4 : cI M A.ma 4 = 0
  · simp only [if_pos h4]
    exact ⟨⟨o0, om, hl, trivial⟩, s2, Or.inr (Or.inl trivial), bad⟩
  simp only [if_neg h4]
  by_cases h0 : x < 0
  · simp only [if_pos h0]
    exact ⟨⟨o0, om, hl, trivial⟩, s2, Or.inr (Or.inr trivial), bad⟩
  simp only [if_neg h0]
  by_cases h2 : x ≤ 200
  rotate_left
  · simp only [if_neg h2]
    exact ⟨⟨o0, om, hl, trivial⟩, s2, Or.inr (Or.inr trivial), bad⟩
  simp only [if_pos h2]
  obtain ⟨r1, r2, g4, k4, K, Fs, Ts, hh, t, b1, b2, b3⟩ := J.kc.hs
  have m := J.kc.mb.resolve_left h4
  have hx : 0 ≤ x.toInt ∧ x.toInt ≤ 200 := by ((try (simp only [vp_in, Int32.toNatClampNeg, Int32.lt_iff_toInt_lt, Int32.le_iff_toInt_le, ← Int32.toInt_inj, Int32.toInt_add, Int32.toInt_sub, Int32.toInt_mul, Int32.reduceToInt, i32_neg1, Nat.reducePow, Int.reducePow, ne_eq, ge_iff_le, gt_iff_lt] at *)) <;> (first | omega | ((simp (disch := omega) only [bm32] at *) <;> omega)))
  obtain ⟨sg, Fs', Ts', h', m'⟩ := ma_goOnFor hh m (by omega) hn hx
  have e := x_Ma_goOnFor cs lim dE n M A.ma x L.mok sg
  have kc : KC cs lim dE A q τ (F_Ma_goOnFor cs dE n M A.ma x).2 := J.kc.machine L t b1 b2 b3 e h' (by decide) (by decide) (by decide) (by decide) (Or.inr (m'.more (by omega)))
  exact ⟨⟨o0, om, o0, om, sg, trivial⟩, s2, Or.inl trivial, fin _ kc (J.ns.ext L e (by decide) (by decide) (by decide)) (J.ef.ext L e (by decide)) (e.xcI L.ma_0.1 (by decide))⟩
end
end
section
/-! pure rows: check, class and reference together -/
theorem mbQ {α β : Type} {w : α} {Sf : α → Prop} {Ff : α → β} {Q : β → Prop} (k : Sf w ∧ Q (Ff w)) : mbind w Sf ∧ Q (mbind w Ff) := k
theorem ifQ {β : Type} {c : Prop} [Decidable c] {S1 S2 : Prop} {F1 F2 : β} {Q : β → Prop} (h1 : c → S1 ∧ Q F1) (h2 : ¬ c → S2 ∧ Q F2) : (if c then S1 else S2) ∧ Q (if c then F1 else F2) := by
  by_cases h : c
  · rw [if_pos h, if_pos h]; exact h1 h
  · rw [if_neg h, if_neg h]; exact h2 h
def Same3 (wc : Nat × Int32 × gMem) (wm : Int32 × mSt) : Prop := (wc.1 = 0 ∧ wm.2.1 4 = 0 ∧ wc.2.1 = wm.1) ∨ (wc.1 = 1 ∧ wm.2.1 4 = 1) ∨ (wc.1 = 2 ∧ wm.2.1 4 = 2) ∨ (wc.1 = 3 ∧ wm.2.1 4 = 3)
section
variable {cs : Nat → ClassId} {lim dE : Nat × Nat} {A : Ad} {M M' : gMem} {q : Nat} {σ : mSt} {n : Nat} {τ : TT} {N C R K k k' : Nat}
/-- what is not the class's stays -/
def Oth (M M' : gMem) : Prop := ∀ a x, M.1 a = some x → x.1 ≠ 1 → M'.1 a = some x
def CQ (cs : Nat → ClassId) (lim dE : Nat × Nat) (A : Ad) (q : Nat) (wm : Int32 × mSt) (M : gMem) (w : Nat × Int32 × gMem) : Prop := Same3 w wm ∧ JX cs lim dE A q wm.2 w.2.2 ∧ Oth M w.2.2
theorem TyA.we (t : TyA cs A M τ K) (L : Lay cs A M) (e : We cs A M M' k k') : TyA cs A M' τ K := by
  obtain ⟨g0, g1, g2, g3, k0, k1, k2, k3, c, r⟩ := t.ex
  obtain ⟨⟨-, -, -, d0⟩, ⟨-, -, d1⟩, ⟨-, d2⟩, d3⟩ := L.nd
  refine ⟨?_, g0, g1, g2, g3, k0, k1, k2, k3, ⟨e.oth _ _ _ d0 c.c0, e.oth _ _ _ d1 c.c1, e.oth _ _ _ d2 c.c2, e.oth _ _ _ d3 c.c3, c.g, c.len, c.wt⟩, r⟩
  rw [e.ext.xcI L.ty_0.1 (by decide)]
  exact t.cnt
/-- what check leaves of the reference's tables -/
theorem check_fin {wm : Int32 × mSt} {τ' : TT} (J : JC cs lim dE A (q + 1) σ τ N C R M) (kc : KC cs lim dE A q τ' M') (ns : NsIs A M' N C (C - R) (ndOf σ.2.2.1) (cdOf σ.2.2.1)) (ef : EfIs A M' (σ.2.2.1 24) (σ.2.2.1 25)) (rows : ∀ x ∈ τ', Byte x.2.2) (len : τ'.length ≤ 60) (keep : ∀ k, (k < 20 ∨ k = 24 ∨ k = 25 ∨ 40 ≤ k) → wm.2.2.2.1 k = σ.2.2.1 k) (tx : TX wm.2 τ') (mi : ∃ T', MoI wm.2 N C R T') (ld : cI M' A.ma 2 = 0 ↔ wm.2.1 36 = -1) : JX cs lim dE A q wm.2 M' := by
  refine ⟨τ', N, C, R, kc, ns.congr (fun i hi k hk => ndOf_congr (fun k h1 h2 => by rw [keep k (by omega)]) k) (fun j hj k hk => cdOf_congr (fun k h1 h2 => by rw [keep k (by omega)]) k hk), ?_, rows, len, tx, ?_, ?_, ld⟩
  · rw [keep 24 (by omega), keep 25 (by omega)]; exact ef
  · obtain ⟨T', hm⟩ := mi
    have e1 := hm.tok.n
    have e2 := tx.ok.n
    have : T' = 3 + τ'.length := by omega
    subst this
    exact hm
  · intro i hi h8
    rw [keep 5 (by omega)] at h8
    rw [keep 7 (by omega)]
    exact J.hrow i hi h8
theorem check_c (J : JC cs lim dE A (q + 1) σ τ N C R M) (hn : 700 ≤ n) (x : Int32) {wm : Int32 × mSt} (X : CheckedX σ N τ x wm) (mi : ∃ T', MoI wm.2 N C R T') : S_N_check cs lim n M A.x x ∧ CQ cs lim dE A q wm M (F_N_check cs n M A.x x) := by
  have L := J.lay
  have hl := J.kc.room6
  have o0 := L.x_ns.1
  obtain ⟨s0, v0⟩ := n_node L J.ns hl x
  unfold S_N_check F_N_check
  refine and1 o0 (and1 s0 (mbQ (Q := CQ cs lim dE A q wm M) ?_))
  rw [v0]
  refine ifQ (Q := CQ cs lim dE A q wm M) (fun z => ?_) (fun z => ?_)
  rotate_left
  · have hI : ¬ Is N x := fun h => z (by rw [if_pos h])
    rw [if_neg hI]
    refine ⟨trivial, Or.inr (Or.inl ⟨rfl, ?_⟩), ?_⟩
    · rw [X.no hI]; simp [si_1, si_2, sl_1, sl_2, sl_3, ai_1, ai_2, ai_3, ai_4, al_1, al_2, al_3, al_4]
    · rw [X.no hI]; exact ⟨⟨τ, N, C, R, J.thrown 1⟩, fun _ _ h _ => h⟩
  have hI : Is N x := by
    by_cases h : Is N x
    · exact h
    · rw [if_neg h] at z; cases z
  have hI' := hI
  unfold Is at hI'
  have hx : x.toInt = (x.toInt.toNat : Nat) := by omega
  have hm : x.toInt.toNat < N := by omega
  have q1 : (cQ M A.x 1).getD 0 = A.ns := by rw [L.x_ns.2]; rfl
  rw [q1]
  obtain ⟨s1, a, v1, -, na⟩ := ns_at (lim := lim) L J.ns hx hm
  refine and1 o0 (and1 ⟨_, L.x_ns.2, L.ns_0.1⟩ (and1 s1 (mbQ (Q := CQ cs lim dE A q wm M) ?_)))
  rw [v1]
  have pa : cOq 4 M (some a) := ⟨a, rfl, na.1⟩
  have n9 : cI M ((some a).getD 0) 9 = σ.2.2.1 12 x.toInt.toNat := na.2 9 (by decide)
  have n10 : cI M ((some a).getD 0) 10 = σ.2.2.1 13 x.toInt.toNat := na.2 10 (by decide)
  rw [n9, n10]
  have c400 : (400 : Int32).toInt = 400 := rfl
  have c40 : (40 : Int32).toInt = 40 := rfl
  have big : ∀ (g : ¬ CkG σ N x), CQ cs lim dE A q wm M (2, 0, gsk M) := fun g => by
    refine ⟨Or.inr (Or.inr (Or.inl ⟨rfl, ?_⟩)), ?_⟩
    · rw [X.big hI g]; simp [si_1, si_2, sl_1, sl_2, sl_3, ai_1, ai_2, ai_3, ai_4, al_1, al_2, al_3, al_4]
    · rw [X.big hI g]; exact ⟨⟨τ, N, C, R, J.thrown 2⟩, fun _ _ h _ => h⟩
  refine and1 pa (ifQ (Q := CQ cs lim dE A q wm M) (fun z => ?_) (fun z => ?_))
  · exact ⟨⟨hl, trivial⟩, big (fun g => by have := g.2.1; rw [Int32.lt_iff_toInt_lt, c400] at z; omega)⟩
  refine and1 pa (ifQ (Q := CQ cs lim dE A q wm M) (fun z2 => ?_) (fun z2 => ?_))
  rotate_left
  · exact ⟨⟨hl, trivial⟩, big (fun g => by have := g.2.2; rw [Int32.le_iff_toInt_le, c40] at z2; omega)⟩
  have d1 : Sz σ x.toInt.toNat ≤ 400 := by rw [Int32.lt_iff_toInt_lt, c400] at z; show (σ.2.2.1 12 x.toInt.toNat).toInt ≤ 400; omega
  have d2 : Dp σ x.toInt.toNat ≤ 40 := by rw [Int32.le_iff_toInt_le, c40] at z2; exact z2
  have g : CkG σ N x := ⟨hI, d1, d2⟩
  have q6 : (cQ M A.x 6).getD 0 = A.ma := by rw [L.x_ma.2]; rfl
  rw [q6]
  obtain ⟨r1, r2, g4, k4, K, Fs, Ts, hh, t, b1, b2, b3⟩ := J.kc.hs
  obtain ⟨su, h1, zz1, v2, v4⟩ := ma_unload hh
  have e1 := x_Ma_unload cs lim M A.ma L.mok su
  refine and1 o0 (and1 ⟨_, L.x_ma.2, L.ma_0.1⟩ (and1 su (mbQ (Q := CQ cs lim dE A q wm M) ?_)))
  have L1 := h1.lay
  have t1 := t.ext L e1 (by decide) (by decide) (by decide)
  have ns1 := J.ns.ext L e1 (by decide) (by decide) (by decide)
  have ef1 := J.ef.ext L e1 (by decide)
  have co1 : ∃ l : Nat, (cI (F_Ma_unload cs M A.ma) A.co 2).toInt = l := by rw [e1.xcI L.co_0.1 (by decide)]; exact J.kc.co
  have o1 : Oth M (F_Ma_unload cs M A.ma) := e1.oth (by decide)
  generalize F_Ma_unload cs M A.ma = M1 at h1 zz1 v2 v4 L1 t1 ns1 ef1 co1 o1 ⊢
  have ro1 := h1.room
  have hKb := t1.Kb
  have ck1 : Cks cs lim A σ N C (C - R) (3 + τ.length) g4 k4 M1 τ K := ⟨L1, ns1, ef1, t1, ⟨by omega, by omega⟩, J.rows, h1.c4, Nat.le_refl _⟩
  obtain ⟨se, e2, r⟩ := ck_examine (⟨J.moi.nok, J.moi.eok, J.hrow⟩ : Ctx σ N C R (3 + τ.length)) hn ck1 J.len hm hx d2 d1
  have q4 : (cQ M1 A.x 4).getD 0 = A.ck := by rw [L1.x_ck.2]; rfl
  rw [q4]
  refine and1 L1.x_ck.1 (and1 ⟨_, L1.x_ck.2, L1.ck_0.1⟩ (and1 se (mbQ (Q := CQ cs lim dE A q wm M) ?_)))
  have vm2 : cI (F_Ck_examine cs n M1 A.ck x).2 A.ma 2 = 0 := by rw [e2.xcI L1.ma_0.1 (by decide)]; exact v2
  have vm4 : cI (F_Ck_examine cs n M1 A.ck x).2 A.ma 4 = 0 := by rw [e2.xcI L1.ma_0.1 (by decide)]; exact v4
  have co2 : ∃ l : Nat, (cI (F_Ck_examine cs n M1 A.ck x).2 A.co 2).toInt = l := by rw [e2.xcI L1.co_0.1 (by decide)]; exact co1
  have sz2 := e2.sz
  have o2 : Oth M (F_Ck_examine cs n M1 A.ck x).2 := fun a y h k => e2.oth (by decide) a y (o1 a y h k) k
  generalize F_Ck_examine cs n M1 A.ck x = w2 at e2 r vm2 vm4 co2 sz2 o2 ⊢
  refine ifQ (Q := CQ cs lim dE A q wm M) (fun z => ?_) (fun z => ?_)
  · rcases r with ⟨t', e', τ', K', -, -, y, -, -⟩ | ⟨hno, -, K', ck2, p2⟩
    · exact absurd z (by intro h; rw [h] at y; have : (-1 : Int32).toInt = -1 := rfl; omega)
    obtain ⟨m1, m2, m3⟩ := X.bad g hno
    obtain ⟨p21, p22, p23⟩ := p2
    have hKb' := ck2.ty.Kb
    have h2 := h1.step (r1' := r1 - (w2.2.2.1 - M1.2.1)) (r2' := r2 - (w2.2.2.2 - M1.2.2)) e2 (by decide) (by decide) ck2.c4 (by omega) (by omega)
    have ro2 := h2.room
    have kc : KC cs lim dE A (q + 1) τ w2.2 := ⟨⟨_, _, g4, k4, K', Fs, Ts, h2, ck2.ty, b1, by omega, by omega⟩, Or.inl vm4, co2⟩
    have ge := gsk_ext ck2.lay.mok
    refine ⟨⟨by omega, trivial⟩, Or.inr (Or.inr (Or.inr ⟨rfl, m1⟩)), check_fin J kc.thrown (ck2.ns.ext ck2.lay ge (by decide) (by decide) (by decide)) (ck2.ef.ext ck2.lay ge (by decide)) J.rows J.len X.keep m2 mi ?_, fun a y h k => o2 a y h k⟩
    show cI (gsk w2.2) A.ma 2 = 0 ↔ _
    rw [ge.xcI ck2.lay.ma_0.1 (by decide), vm2, m3]
    exact ⟨fun _ => rfl, fun _ => rfl⟩
  · rcases r with ⟨tt, ee, τ', K', hf, hl60, y, ylt, ck2, p2, -⟩ | ⟨-, y, -⟩
    rotate_left
    · exact absurd y z
    obtain ⟨m1, m2, m3, m4⟩ := X.ok g tt ee τ' hf hl60
    obtain ⟨p21, p22, p23⟩ := p2
    have L2 := ck2.lay
    have hKb' := ck2.ty.Kb
    have h2 := h1.step (r1' := r1 - (w2.2.2.1 - M1.2.1)) (r2' := r2 - (w2.2.2.2 - M1.2.2)) e2 (by decide) (by decide) ck2.c4 (by omega) (by omega)
    have ro2 := h2.room
    obtain ⟨l2, hl2⟩ := co2
    have wk : Wk cs lim A σ w2.2 N C (C - R) l2 k4 := ⟨L2, ck2.ns, ⟨g4, ck2.c4⟩, hl2, b1, by omega, by omega⟩
    obtain ⟨sc, l3, k5, wk3, we3⟩ := co_compile (fu := n) (⟨J.moi.nok, J.moi.eok, J.hrow⟩ : Ctx σ N C R (3 + τ.length)) (by omega) wk hm hx d2 d1
    have q5 : (cQ w2.2 A.x 5).getD 0 = A.co := by rw [L2.x_co.2]; rfl
    rw [q5]
    refine and1 L2.x_co.1 (and1 ⟨_, L2.x_co.2, L2.co_0.1⟩ (and1 sc (mbQ (Q := CQ cs lim dE A q wm M) ?_)))
    have t3 := ck2.ty.we L2 we3
    have ef3 := ck2.ef.ext L2 we3.ext (by decide)
    have o3 : Oth M (F_Co_compile cs n w2.2 A.co x) := fun a y h k => we3.ext.oth (by decide) a y (o2 a y h k) k
    generalize F_Co_compile cs n w2.2 A.co x = M3 at wk3 we3 t3 ef3 o3 ⊢
    obtain ⟨g5, c5⟩ := wk3.c4
    have kb5 := wk3.kb
    obtain ⟨p31, p32, p33⟩ := we3.pot
    have sz3 := we3.ext.sz
    have h3 := h2.step (r1' := r1 - (w2.2.2.1 - M1.2.1) - (M3.2.1 - w2.2.2.1)) (r2' := r2 - (w2.2.2.2 - M1.2.2) - (M3.2.2 - w2.2.2.2)) we3.ext (by decide) (by decide) c5 (by omega) (by omega)
    have L3 := h3.lay
    have q63 : (cQ M3 A.x 6).getD 0 = A.ma := by rw [L3.x_ma.2]; rfl
    rw [q63]
    have ans : w2.1 = wm.1 := Int32.toInt_inj.mp (y.trans m1.symm)
    have hxne : ¬ x = -1 := fun h => by rw [h] at hI'; exact absurd hI'.1 (by decide)
    have fin : ∀ z : Int32, z = 0 ∨ z = 1 → S_Ma_load cs lim M3 A.ma z ∧ CQ cs lim dE A q wm M (0, w2.1, F_Ma_load cs M3 A.ma z) := fun z hz => by
      obtain ⟨sl, h4, zz4, u2, -, u4⟩ := ma_load h3 hz
      have e4 := x_Ma_load cs lim M3 A.ma z L3.mok sl
      have t4 := t3.ext L3 e4 (by decide) (by decide) (by decide)
      have kc : KC cs lim dE A (q + 1) τ' (F_Ma_load cs M3 A.ma z) := ⟨⟨_, _, g5, k5, K', Fs, Ts, h4, t4, kb5, by omega, by omega⟩, Or.inl u4, l3, by rw [e4.xcI L3.co_0.1 (by decide)]; exact wk3.len⟩
      refine ⟨sl, Or.inl ⟨rfl, m2, ans⟩, check_fin J kc.less (wk3.ns.ext L3 e4 (by decide) (by decide) (by decide)) (ef3.ext L3 e4 (by decide)) ck2.rows hl60 X.keep m3 mi ?_, fun a y h k => e4.oth (by decide) a y (o3 a y h k) k⟩
      show cI (F_Ma_load cs M3 A.ma z) A.ma 2 = 0 ↔ _
      rw [u2, m4]
      exact ⟨fun h => absurd h (by decide), fun h => absurd h hxne⟩
    refine and1 L3.x_ma.1 (ifQ (Q := CQ cs lim dE A q wm M) (fun _ => ?_) (fun _ => ?_))
    · obtain ⟨f1, f2⟩ := fin 0 (Or.inl rfl)
      exact and1 ⟨_, L3.x_ma.2, L3.ma_0.1⟩ (and1 f1 (mbQ (Q := CQ cs lim dE A q wm M) ⟨trivial, f2⟩))
    · obtain ⟨f1, f2⟩ := fin 1 (Or.inr rfl)
      exact and1 ⟨_, L3.x_ma.2, L3.ma_0.1⟩ (and1 f1 (mbQ (Q := CQ cs lim dE A q wm M) ⟨trivial, f2⟩))
theorem check_j (J : JX cs lim dE A (q + 1) σ M) (hn : 700 ≤ n) {n2 : Nat} (hn2 : 3000 ≤ n2) (x : Int32) : S_N_check cs lim n M A.x x ∧ S_Mo_check n2 σ x ∧ Same3 (F_N_check cs n M A.x x) (F_Mo_check n2 σ x) ∧ JX cs lim dE A q (F_Mo_check n2 σ x).2 (F_N_check cs n M A.x x).2.2 := by
  obtain ⟨τ, N, C, R, J⟩ := J
  have h60 := J.len
  obtain ⟨s2, T', -, mi⟩ := J.moi.check hn2 (x := x)
  have X := check_x J.tx (by omega) J.moi.nok J.moi.eok hn2 (x := x)
  obtain ⟨s1, a1, a2, -⟩ := check_c J hn x X ⟨T', mi⟩
  exact ⟨s1, s2, a1, a2⟩
theorem check_o (J : JX cs lim dE A (q + 1) σ M) (hn : 700 ≤ n) (x : Int32) : Oth M (F_N_check cs n M A.x x).2.2 := by
  obtain ⟨τ, N, C, R, J⟩ := J
  have h60 := J.len
  obtain ⟨s2, T', -, mi⟩ := J.moi.check (n := 3000) (Nat.le_refl _) (x := x)
  have X := check_x J.tx (by omega) J.moi.nok J.moi.eok (n := 3000) (Nat.le_refl _) (x := x)
  obtain ⟨-, -, -, o⟩ := check_c J hn x X ⟨T', mi⟩
  exact o
end
end
