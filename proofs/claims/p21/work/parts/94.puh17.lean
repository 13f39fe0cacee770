-- pure rows: HX
section
/-! pure rows: both machines go a step, where no fuel is taken -/
/-- class and reference at a run's work -/
def SimA (cs : Nat → ClassId) (lim dE : Nat × Nat) (A : Ad) (r1 r2 NF : Nat) (X : Cx) (G : Nat → Int32) (k4 : Nat) (mk : Fr) (ut : Nat) (M : gMem) (σ : mSt) (al tk Φ : Nat) : Prop :=
  ∃ (S : Sto) (μ : Mp) (fa ta : Nat → Nat) (nf nt u v : Nat) (own : Nat → Nat) (Lf : List Nat) (Wk : Nat → Nat) (w : Vw) (W : Nat), SimC cs lim dE A r1 r2 NF X G k4 S μ fa ta nf nt u v own Lf Wk M w σ ∧ Rn A NF w σ al tk ∧ SimT X G S μ w (FsO ta v) A own σ mk ut W ∧ Φ = W + sumW Wk S.nk + (1000 - (σ.1 48).toInt.toNat) * 1701 + (al - tk) * 1701
/-- some steps of the class, and both stand as before -/
def GoA (cs : Nat → ClassId) (lim dE : Nat × Nat) (A : Ad) (r1 r2 NF : Nat) (X : Cx) (G : Nat → Int32) (k4 : Nat) (mk : Fr) (ut : Nat) (M : gMem) (σ' : mSt) (al tk Φ : Nat) : Prop := ∃ (k : Nat) (M' : gMem) (Φ' : Nat), CSts cs dE A k M M' ∧ SimA cs lim dE A r1 r2 NF X G k4 mk ut M' σ' al tk Φ' ∧ Φ' + k ≤ Φ
section
variable {cs : Nat → ClassId} {lim dE : Nat × Nat} {A : Ad} {r1 r2 NF : Nat} {X : Cx} {G : Nat → Int32} {k4 : Nat} {S S' : Sto} {μ μ' : Mp} {fa ta : Nat → Nat} {nf nt u v : Nat} {own : Nat → Nat} {Lf : List Nat} {Wk : Nat → Nat} {M M' : gMem} {w w' : Vw} {σ σ' : mSt} {al tk a h r n : Nat} {s : Nat → Int32} {mk : Fr} {ut F : Nat} {L : List Nat} {Fs : List Fr} {b : Fr} {rest : List Fr} {t u0 u1 W1 : Nat} {e : Nat} {x1 : Int32}
theorem SimC.tvo (c : (SimC cs lim dE A r1 r2 NF X G k4) S μ fa ta nf nt u v own Lf Wk M w σ) (ha : FsO fa nf a) (o : Oth1 w w' a) : ∀ z, FsO ta v z → SameT w w' z ∧ FsO ta v z := fun z hz => ⟨(o.same (fun q => c.vs.neFT ha (c.tv hz) q.symm)).T, hz⟩
/-- the frames, where only the one on top has changed -/
theorem Tp.oth {Fs' : List Fr} {F' : Nat} (tp : Tp X G S μ w (FsO ta v) A own σ mk ut F a L Fs b rest u1 W1) (c : (SimC cs lim dE A r1 r2 NF X G k4) S μ fa ta nf nt u v own Lf Wk M w σ) (o : Oth1 w w' a) (f44 : (σ'.1 44).toInt = F') (hF : F' ≤ 16440) (f49 : σ'.1 49 = σ.1 49) (rf : rfs σ' F' ++ [mk] = Fs' ++ b :: rest) : Tp X G S μ w' (FsO ta v) A own σ' mk ut F' a L Fs' b rest u1 W1 := by
  have ha := c.fsa (tp.ow a (by simp [si_1, si_2, sl_1, sl_2, sl_3, ai_1, ai_2, ai_3, ai_4, al_1, al_2, al_3, al_4, cp_1, cp_2, cp_3, cp_4]))
  refine tp.next Sto.le.rfl' MpLe.rfl' (fun c' hc' => o.same (fun z => ?_)) (c.tvo ha o) (o.2.2 a 4) (o.2.2 A.ma 10) tp.ow f44 hF f49 rf
  have := (List.nodup_cons.mp tp.nd).1
  rw [← z] at this
  exact this hc'
theorem Tp.top (tp : Tp X G S μ w (FsO ta v) A own σ mk ut F a L Fs b rest u1 W1) : w.2.2 A.ma 10 = some a := tp.lnk.1
theorem Tp.ow1 (tp : Tp X G S μ w (FsO ta v) A own σ mk ut F a L Fs b rest u1 W1) : own a = 1 := tp.ow a (by simp [si_1, si_2, sl_1, sl_2, sl_3, ai_1, ai_2, ai_3, ai_4, al_1, al_2, al_3, al_4, cp_1, cp_2, cp_3, cp_4])
/-- scopes end, and jumps are taken, until a frame of the reference is to come -/
theorem quiet : ∀ (d : Nat) {M : gMem} {w : Vw} {s : Nat → Int32} {h r : Nat}, (SimC cs lim dE A r1 r2 NF X G k4) S μ fa ta nf nt u v own Lf Wk M w σ → Rn A NF w σ al tk → w.2.2 A.ma 10 = some a → own a = 1 → FSt w a s (h + 1) r → Pd X G S μ d r s h t Fs u0 e →
    ∃ (k : Nat) (M' : gMem) (w' : Vw) (s' : Nat → Int32) (h' r' d' : Nat), CSts cs dE A k M M' ∧ (SimC cs lim dE A r1 r2 NF X G k4) S μ fa ta nf nt u v own Lf Wk M' w' σ ∧ Rn A NF w' σ al tk ∧ w'.2.2 A.ma 10 = some a ∧ FSt w' a s' (h' + 1) r' ∧ s' h' = s h ∧ Oth1 w w' a ∧ r + k ≤ r' ∧ (r' ≤ 1700 ∧ 10 ≤ h' ∧ h' < 50) ∧ ((Fs = [] ∧ h' = 10 ∧ r' = e ∧ Sbt X.P t u0) ∨ PF X G S μ (Pd X G S μ d') r' s' h' t Fs u0 e) := by
  intro d
  induction d with
  | zero => intro M w s h r c rn ht ho f p; exact p.elim
  | succ d ih =>
    intro M w s h r c rn ht ho f p
    obtain ⟨bd, p⟩ := p
    rcases p with p | ⟨K, p1, p2, p3, p4, p5⟩ | ⟨r', p1, p2, p3, p4⟩ | p
    · exact ⟨0, M, w, s, h, r, d, rfl, c, rn, ht, f, rfl, Oth1.rfl', by omega, bd, Or.inl p⟩
    · obtain ⟨hh, rfl⟩ : ∃ z, h = z + 1 := ⟨h - 1, by omega⟩
      rw [Nat.add_sub_cancel] at p5
      obtain ⟨M1, w1, ⟨st, c1, rn1, ht1⟩, f1, o1⟩ := stp_unbind c rn ht ho f (by omega) bd.2.2 bd.1 p2 p3 p1
      obtain ⟨k, M', w', s', h', r', d', q1, q2, q3, q4, q5, q6, q7, q8, q9, q10⟩ := ih c1 rn1 ht1 ho f1 (p5.cong (fun j hj => by rw [upd_n (by omega)]))
      refine ⟨k + 1, M', w', s', h', r', d', ⟨M1, st, q1⟩, q2, q3, q4, q5, ?_, o1.trans q7, by omega, q9, q10⟩
      rw [q6, upd_s]
    · obtain ⟨M1, w1, ⟨st, c1, rn1, ht1⟩, f1, o1⟩ := stp_jump c rn ht ho f bd.1 p1 p2
      obtain ⟨k, M', w', s', h', r'', d', q1, q2, q3, q4, q5, q6, q7, q8, q9, q10⟩ := ih c1 rn1 ht1 ho f1 p4
      exact ⟨k + 1, M', w', s', h', r'', d', ⟨M1, st, q1⟩, q2, q3, q4, q5, q6, o1.trans q7, by omega, q9, q10⟩
    · exact ⟨0, M, w, s, h, r, d, rfl, c, rn, ht, f, rfl, Oth1.rfl', by omega, bd, Or.inr p⟩
/-- the first of the reference's frames -/
theorem rf_top {f : Fr} {F2 : List Fr} (tp : Tp X G S μ w (FsO ta v) A own σ mk ut F a L (f :: F2) b rest u1 W1) (hmk : mk.node = -1) (hf : f.node ≠ -1) : ∃ F', F = F' + 1 ∧ frm σ F' = f ∧ rfs σ F' ++ [mk] = F2 ++ b :: rest := by
  have rf := tp.rf
  cases F with
  | zero =>
    exfalso
    simp only [rfs, List.nil_append, List.cons_append, List.cons.injEq] at rf
    exact hf (by rw [← rf.1]; exact hmk)
  | succ F' =>
    simp only [rfs, List.cons_append, List.cons.injEq] at rf
    exact ⟨F', rfl, rf.1, rf.2⟩
theorem node_ne {x : Int32} {m : Nat} (h : x.toInt = m) : x ≠ -1 := fun q => by rw [q] at h; simp only [i32_neg1] at h; omega
theorem Rw.arr {rf : List Fr} {nd : Int32} {see : Nat → Int64} (h : Rw σ σ' F rf nd see) (a : Arr X σ) : Arr X σ' := a.congr (fun k _ _ => h.tab k (by omega))
theorem Rg.arr {rf : List Fr} {vl : Int64} (h : Rg σ σ' F rf vl) (a : Arr X σ) : Arr X σ' := a.congr (fun k _ _ => h.tab k (by omega))
/-- the class goes one step in its frame, and works a node -/
theorem goNow {F' nd rx h2 c2 k W Φ : Nat} {Fs' Fs0 : List Fr} {x : Int32} {s2 : Nat → Int32} {see : Nat → Int64} {g : Nat → Int} {t2 : Nat} (tp : Tp X G S μ w (FsO ta v) A own σ mk ut F a L Fs0 b rest u1 W1) (c : (SimC cs lim dE A r1 r2 NF X G k4) S μ fa ta nf nt u v own Lf Wk M w σ) (o : Oth1 w w' a) (c' : (SimC cs lim dE A r1 r2 NF X G k4) S μ fa ta nf nt u v own Lf Wk M' w' σ) (rn : Rn A NF w' σ al tk) (st : CSts cs dE A k M M') (rw' : Rw σ σ' F' Fs' x see) (hp : HpE σ σ') (e48 : σ'.1 48 = σ.1 48) (e49 : σ'.1 49 = σ.1 49) (hF : F' ≤ 16440)
    (hrf : Fs' ++ [mk] = Fs ++ b :: rest) (hx : x.toInt = nd) (gd : Gd X nd) (dp : DpOk X nd h2) (h10 : 10 ≤ h2) (f2 : FSt w' a s2 h2 rx) {r3 : Nat} (cd : Cd X.A G c2 nd rx r3) (ty : Ty X.A X.P X.tk X.gv g nd t2) (sr : SR X.P S μ g s2 see) (bk : Bk X G S μ w' (FsO ta v) a r3 s2 h2 Fs b t2 u1) (hW : W + r = W1 + 1701) (hr : r + k ≤ rx) (hr2 : rx ≤ 1700) (hΦ : Φ = W + sumW Wk S.nk + (1000 - (σ.1 48).toInt.toNat) * 1701 + (al - tk) * 1701) : (GoA cs lim dE A r1 r2 NF X G k4 mk ut) M σ' al tk Φ := by
  have c2' : (SimC cs lim dE A r1 r2 NF X G k4) S μ fa ta nf nt u v own Lf Wk M' w' σ' := c'.same c'.vs Same.rfl' (fun _ _ => Same.rfl') (fun _ _ => Same.rfl') hp (rw'.arr c.ar) (by rw [e48]; exact c'.th) (by rw [e49]; exact c'.dp) (by rw [rw'.f47]; exact c'.fu) c'.un c'.va (by rw [e48]; omega) (by rw [rw'.f47]; omega)
  refine ⟨k, M', W1 + 1701 - rx + sumW Wk S.nk + (1000 - (σ'.1 48).toInt.toNat) * 1701 + (al - tk) * 1701, st, ⟨S, μ, fa, ta, nf, nt, u, v, own, Lf, Wk, w', W1 + 1701 - rx, c2', ⟨rn.st, rn.wt, rn.al, rn.tk, rn.le, by rw [rw'.f46]; exact rn.en, by rw [rw'.f47]; exact rn.fl⟩, ⟨F', a, L, s2, h2, rx, Fs, b, rest, t2, u1, W1, tp.oth c o rw'.f44 hF e49 (by rw [rw'.rf]; exact hrf), by omega, Or.inl ⟨rw'.f51, nd, r3, c2, g, by rw [rw'.f45]; exact hx, gd, dp, h10, f2, cd, ty, sr.congr (fun _ _ => rfl) rw'.see, bk⟩⟩, rfl⟩, ?_⟩
  rw [e48]
  omega
/-- the class goes one step in its frame, and has a value -/
theorem goGot {F' rx h2 k W Φ : Nat} {Fs' Fs0 : List Fr} {s2 : Nat → Int32} {vl : Int64} {t2 : Nat} (tp : Tp X G S μ w (FsO ta v) A own σ mk ut F a L Fs0 b rest u1 W1) (c : (SimC cs lim dE A r1 r2 NF X G k4) S μ fa ta nf nt u v own Lf Wk M w σ) (o : Oth1 w w' a) (c' : (SimC cs lim dE A r1 r2 NF X G k4) S μ fa ta nf nt u v own Lf Wk M' w' σ) (rn : Rn A NF w' σ al tk) (st : CSts cs dE A k M M') (rw' : Rg σ σ' F' Fs' vl) (hp : HpE σ σ') (e48 : σ'.1 48 = σ.1 48) (e49 : σ'.1 49 = σ.1 49) (hF : F' ≤ 16440)
    (hrf : Fs' ++ [mk] = Fs ++ b :: rest) (f2 : FSt w' a s2 (h2 + 1) rx) (vr : VR X.P S μ t2 (s2 h2) vl) (bk : Bk X G S μ w' (FsO ta v) a rx s2 h2 Fs b t2 u1) (hW : W + r = W1 + 1701) (hr : r + k ≤ rx) (hr2 : rx ≤ 1700) (hΦ : Φ = W + sumW Wk S.nk + (1000 - (σ.1 48).toInt.toNat) * 1701 + (al - tk) * 1701) : (GoA cs lim dE A r1 r2 NF X G k4 mk ut) M σ' al tk Φ := by
  have c2' : (SimC cs lim dE A r1 r2 NF X G k4) S μ fa ta nf nt u v own Lf Wk M' w' σ' := c'.same c'.vs Same.rfl' (fun _ _ => Same.rfl') (fun _ _ => Same.rfl') hp (rw'.arr c.ar) (by rw [e48]; exact c'.th) (by rw [e49]; exact c'.dp) (by rw [rw'.f47]; exact c'.fu) c'.un c'.va (by rw [e48]; omega) (by rw [rw'.f47]; omega)
  refine ⟨k, M', W1 + 1701 - rx + sumW Wk S.nk + (1000 - (σ'.1 48).toInt.toNat) * 1701 + (al - tk) * 1701, st, ⟨S, μ, fa, ta, nf, nt, u, v, own, Lf, Wk, w', W1 + 1701 - rx, c2', ⟨rn.st, rn.wt, rn.al, rn.tk, rn.le, by rw [rw'.f46]; exact rn.en, by rw [rw'.f47]; exact rn.fl⟩, ⟨F', a, L, s2, h2, rx, Fs, b, rest, t2, u1, W1, tp.oth c o rw'.f44 hF e49 (by rw [rw'.rf]; exact hrf), by omega, Or.inr ⟨rw'.f51, f2, by rw [rw'.vl]; exact vr, bk⟩⟩, rfl⟩, ?_⟩
  rw [e48]
  omega
end
end
