-- pure rows: IA
section
/-! pure rows: a node's code, by its kind; a handler's body ends -/
section
variable {A : Nat → Nat → Int32} {g : Nat → Int32} {d n l l' : Nat}
theorem Cd.j0 (h : Cd A g d n l l') (k : (A 5 n).toInt = 0 ∨ (A 5 n).toInt = 1 ∨ (A 5 n).toInt = 2) : cOp g l = 1 ∧ cFd g l 1 = valOf A n ∧ l' = l + 1 := by
  cases d with
  | zero => exact h.elim
  | succ d =>
    unfold Cd at h
    rw [if_neg (by omega), if_neg (by omega), if_neg (by omega), if_neg (by omega), if_neg (by omega), if_neg (by omega), if_neg (by omega), if_neg (by omega), if_neg (by omega)] at h
    exact h
theorem Cd.j3 (h : Cd A g d n l l') (k : (A 5 n).toInt = 3) : cOp g l = 2 ∧ cFd g l 1 = A 6 n ∧ l' = l + 1 := by
  cases d with
  | zero => exact h.elim
  | succ d =>
    unfold Cd at h
    rw [if_pos k] at h
    exact h
theorem Cd.j4 (h : Cd A g d n l l') (k : (A 5 n).toInt = 4) : ∃ c m m', Cd A g c (A 9 n).toInt.toNat l m ∧ cOp g m = 3 ∧ cFd g m 1 = A 6 n ∧ Cd A g c (A 10 n).toInt.toNat (m + 1) m' ∧ cOp g m' = 4 ∧ cFd g m' 1 = A 6 n ∧ l' = m' + 1 := by
  cases d with
  | zero => exact h.elim
  | succ d =>
    unfold Cd at h
    rw [if_neg (by omega), if_pos k] at h
    exact ⟨d, h⟩
theorem Cd.j5 (h : Cd A g d n l l') (k : (A 5 n).toInt = 5) : ∃ c m m', cOp g l = 8 ∧ cFd g l 1 = A 7 n ∧ cFd g l 2 = A 6 n ∧ (cFd g l 3).toInt = (m + 1 : Nat) ∧ Cd A g c (A 9 n).toInt.toNat (l + 1) m ∧ cOp g m = 0 ∧ cOp g (m + 1) = 3 ∧ cFd g (m + 1) 1 = A 6 n ∧ Cd A g c (A 10 n).toInt.toNat (m + 2) m' ∧ cOp g m' = 4 ∧ cFd g m' 1 = A 6 n ∧ l' = m' + 1 := by
  cases d with
  | zero => exact h.elim
  | succ d =>
    unfold Cd at h
    rw [if_neg (by omega), if_neg (by omega), if_pos k] at h
    exact ⟨d, h⟩
theorem Cd.j7 (h : Cd A g d n l l') (k : (A 5 n).toInt = 7) : ∃ c m, cOp g l = 8 ∧ cFd g l 1 = A 6 n ∧ cFd g l 2 = -1 ∧ (cFd g l 3).toInt = (m + 1 : Nat) ∧ Cd A g c (A 9 n).toInt.toNat (l + 1) m ∧ cOp g m = 0 ∧ l' = m + 1 := by
  cases d with
  | zero => exact h.elim
  | succ d =>
    unfold Cd at h
    rw [if_neg (by omega), if_neg (by omega), if_neg (by omega), if_pos k] at h
    exact ⟨d, h⟩
theorem Cd.j6 (h : Cd A g d n l l') (k : (A 5 n).toInt = 6) : ∃ c m m', Cd A g c (A 9 n).toInt.toNat l m ∧ cOp g m = 6 ∧ (cFd g m 1).toInt = (m' + 1 : Nat) ∧ Cd A g c (A 10 n).toInt.toNat (m + 1) m' ∧ cOp g m' = 5 ∧ (cFd g m' 1).toInt = (l' : Nat) ∧ Cd A g c (A 11 n).toInt.toNat (m' + 1) l' := by
  cases d with
  | zero => exact h.elim
  | succ d =>
    unfold Cd at h
    rw [if_neg (by omega), if_neg (by omega), if_neg (by omega), if_neg (by omega), if_pos k] at h
    exact ⟨d, h⟩
theorem Cd.j8 (h : Cd A g d n l l') (k : (A 5 n).toInt = 8) : ∃ c m m', cOp g l = 9 ∧ cFd g l 3 = A 6 n ∧ cFd g l 4 = A 15 n ∧ Cd A g c (A 9 n).toInt.toNat (l + 1 + (A 15 n).toInt.toNat) m ∧ cOp g m = 11 ∧ (cFd g l 2).toInt = (m + 1 : Nat) ∧ Cd A g c (A 10 n).toInt.toNat (m + 1) m' ∧ cOp g m' = 0 ∧ m' < l' ∧ (cFd g l 1).toInt = (l' : Nat) ∧
      ∀ j, j < (A 15 n).toInt.toNat → cOp g (l + 1 + j) = 10 ∧ cFd g (l + 1 + j) 1 = A 16 ((A 14 n).toInt.toNat + j) ∧ cFd g (l + 1 + j) 3 = A 17 ((A 14 n).toInt.toNat + j) ∧ cFd g (l + 1 + j) 4 = A 18 ((A 14 n).toInt.toNat + j) ∧ ∃ b b' : Nat, (cFd g (l + 1 + j) 2).toInt = b ∧ m' < b ∧ Cd A g c (A 19 ((A 14 n).toInt.toNat + j)).toInt.toNat b b' ∧ cOp g b' = 0 ∧ b' < l' := by
  cases d with
  | zero => exact h.elim
  | succ d =>
    unfold Cd at h
    rw [if_neg (by omega), if_neg (by omega), if_neg (by omega), if_neg (by omega), if_neg (by omega), if_pos k] at h
    exact ⟨d, h⟩
theorem Cd.j9 (h : Cd A g d n l l') (k : (A 5 n).toInt = 9) : ∃ c m m', Cd A g c (A 9 n).toInt.toNat l m ∧ Cd A g c (A 10 n).toInt.toNat m m' ∧ cOp g m' = 7 ∧ cFd g m' 1 = A 6 n ∧ l' = m' + 1 := by
  cases d with
  | zero => exact h.elim
  | succ d =>
    unfold Cd at h
    rw [if_neg (by omega), if_neg (by omega), if_neg (by omega), if_neg (by omega), if_neg (by omega), if_neg (by omega), if_pos k] at h
    exact ⟨d, h⟩
theorem Cd.j10 (h : Cd A g d n l l') (k : (A 5 n).toInt = 10) : ∃ c m m', Cd A g c (A 9 n).toInt.toNat l m ∧ Cd A g c (A 10 n).toInt.toNat m m' ∧ cOp g m' = 12 ∧ l' = m' + 1 := by
  cases d with
  | zero => exact h.elim
  | succ d =>
    unfold Cd at h
    rw [if_neg (by omega), if_neg (by omega), if_neg (by omega), if_neg (by omega), if_neg (by omega), if_neg (by omega), if_neg (by omega), if_pos k] at h
    exact ⟨d, h⟩
theorem Cd.j11 (h : Cd A g d n l l') (k : (A 5 n).toInt = 11) : ∃ c m, Cd A g c (A 9 n).toInt.toNat l m ∧ cOp g m = 13 ∧ cFd g m 1 = A 6 n ∧ l' = m + 1 := by
  cases d with
  | zero => exact h.elim
  | succ d =>
    unfold Cd at h
    rw [if_neg (by omega), if_neg (by omega), if_neg (by omega), if_neg (by omega), if_neg (by omega), if_neg (by omega), if_neg (by omega), if_neg (by omega), if_pos k] at h
    exact ⟨d, h⟩
end
section
variable {cs : Nat → ClassId} {lim dE : Nat × Nat} {A : Ad} {r1 r2 NF : Nat} {X : Cx} {G : Nat → Int32} {k4 : Nat} {S S' : Sto} {μ μ' : Mp} {fa ta : Nat → Nat} {nf nt u v : Nat} {own : Nat → Nat} {Lf : List Nat} {Wk : Nat → Nat} {M M' : gMem} {w w' : Vw} {σ σ' : mSt} {al tk a h r n nd d cc m W Φ l l' th : Nat} {s : Nat → Int32} {mk : Fr} {ut F : Nat} {L : List Nat} {F2 : List Fr} {f b : Fr} {rest : List Fr} {t u0 u1 W1 : Nat} {e : Nat} {x1 : Int32} {g : Nat → Int}
/-- the body of a handler gives its value, and return begins -/
theorem got_han {t0 ub : Nat} (hX : X.Ok) (c : (SimC cs lim dE A r1 r2 NF X G k4) S μ fa ta nf nt u v own Lf Wk M w σ) (rn : Rn A NF w σ al tk) (tp : Tp X G S μ w (FsO ta v) A own σ mk ut (F + 1) a L [] b rest u1 W1) (fs : FSt w a s 11 r) (hr : r ≤ 1700) (vr : VR X.P S μ t (s 10) σ.2.1) (sb : Sbt X.P t u0) (q2 : b.node.toInt = nd) (q3 : Gd X nd) (kd : (X.A 5 nd).toInt = 8) (op : cOp G r = 11) (fd2 : cFd G l 2 = nI (r + 1)) (ht : w.2.2 a 3 = some th) (tv : FsO ta v th) (hl : w.2.1 th 1 = nI l) (cd : Cd X.A G cc nd l l') (hl' : l' ≤ 1700) (sr : SR X.P S μ g (w.1 th) b.see) (sb2 : Sbt X.P u0 t0) (ty : Ty X.A X.P X.tk X.gv (env g (X.A 6 nd).toInt.toNat t0) (X.A 10 nd).toInt.toNat ub) (sb3 : Sbt X.P ub u1) (hW : W + r = W1 + 1701) (hΦ : Φ = W + sumW Wk S.nk + (1000 - (σ.1 48).toInt.toNat) * 1701 + (al - tk) * 1701) (hn : 12 ≤ n) : ∃ σ', F_Mo_comes n σ x1 = (1, σ') ∧ (GoA cs lim dE A r1 r2 NF X G k4 mk ut) M σ' al tk Φ := by
  have rf := tp.rf
  simp only [rfs, List.nil_append, List.cons_append, List.cons.injEq] at rf
  obtain ⟨rb, rr⟩ := rf
  have hF := tp.hF
  obtain ⟨e6, hK⟩ := nmK hX q3.1.1 (by omega)
  have hpb := hX.pb nd q3.1.1 (by omega)
  have gp := q3.part hX (parts_b (n := nd) (by omega))
  have lt := cd.lt
  obtain ⟨c0, m, m', b1, b2, b3, b4, b5, b6, b7, b8, b9, b10, b11⟩ := cd.j8 kd
  have em : m = r := by rw [fd2, nT (by omega)] at b6; omega
  subst em
  obtain ⟨σ', e1, ⟨fr, fm, rw'⟩, hp, e48, e49⟩ := r_han (n := n) (x1 := x1) hX c.ar (F := F) (by have := tp.f44; omega) (by omega) hn (by rw [rb]; exact q2) q3.1.1 kd
  rw [rb] at rw'
  have ha := c.fsa tp.ow1
  have hT := c.tv tv
  have nat := c.vs.neFT ha hT
  obtain ⟨w1, v1, f1, o1, ew⟩ := c.vs.work ha fs (by omega) (op_of (y := 11) op rfl)
  obtain ⟨w2, v2, k1, k2, k3, k5, k6, k7⟩ := v1.fEndBody (l := l) (q := m + 1) (K := (X.A 6 nd).toInt.toNat) ha f1 (by rw [o1.2.2]; exact ht) (by rw [(o1.same (Ne.symm nat)).2.1]; exact hl) (by omega) fd2 (b2.trans e6) hK
  have S2 : ∀ c', c' ≠ a → Same w w2 c' := fun c' z => (o1.same z).trans (k7 c' z)
  have nma := c.vs.neFM ha
  have nsa := c.vs.neFS ha
  have sM := S2 A.ma (Ne.symm nma)
  have stp : CStp cs dE A M (F_Ma_endBody cs (nxR M a m) A.ma (some a)) := c.stp rn tp.top ha fs (fun n _ => (ew n).2.2.2.2.2.2.2.2.2.1 rfl)
  have sc : (SimC cs lim dE A r1 r2 NF X G k4) S μ fa ta nf nt u v own Lf Wk (F_Ma_endBody cs (nxR M a m) A.ma (some a)) w2 σ' := c.same v2 (S2 A.st (Ne.symm nsa)) (fun i hi => S2 _ (fun z => c.vs.neFT ha (c.tv ⟨i, hi, rfl⟩) z.symm)) (fun z hz => S2 z (fun q => by rw [q, tp.ow1] at hz; omega)) hp (rw'.arr c.ar) (by rw [sM.2.1, e48]; exact c.th) (by rw [sM.2.1, e49]; exact c.dp) (by rw [sM.2.1, rw'.f47]; exact c.fu) (by rw [sM.2.1]; exact c.un) (by rw [sM.2.1]; exact c.va) (by rw [e48]; omega) (by rw [rw'.f47]; omega)
  have tS : ∀ z, FsO ta v z → SameT w w2 z ∧ FsO ta v z := fun z hz => ⟨(S2 z (fun q => c.vs.neFT ha (c.tv hz) q.symm)).T, hz⟩
  have d13 := q3.1.2.2
  refine ⟨σ', e1, 1, _, W1 + 1701 - (m + 1) + sumW Wk S.nk + (1000 - (σ'.1 48).toInt.toNat) * 1701 + (al - tk) * 1701, CSts.one stp, ⟨S, μ, fa, ta, nf, nt, u, v, own, Lf, Wk, w2, W1 + 1701 - (m + 1), sc, ⟨by rw [sM.2.1]; exact rn.st, by rw [sM.2.1]; exact rn.wt, by rw [sM.2.1]; exact rn.al, by rw [sM.2.1]; exact rn.tk, rn.le, by rw [rw'.f46]; exact rn.en, by rw [rw'.f47]; exact rn.fl⟩, ⟨F + 1, a, L, w2.1 a, 10, m + 1, [], fr, rest, ub, u1, W1, ⟨by have := rw'.f44; omega, by omega, ?_, tp.nd, tp.ow, by rw [e49]; exact tp.len, ?_, tp.bs.mono Sto.le.rfl' MpLe.rfl' (fun z hz => ?_) tS⟩, by omega, Or.inl ⟨rw'.f51, (X.A 10 nd).toInt.toNat, m', c0, env g (X.A 6 nd).toInt.toNat t0, ?_, gp.1, ?_, by omega, ⟨fun _ => rfl, k2, k3⟩, b7, ty, ?_, 1, ub, m', ⟨⟨by omega, by omega, by omega⟩, Or.inl ⟨rfl, rfl, rfl, .rfl'⟩⟩, Or.inl ⟨fm, k5, b8, sb3⟩⟩⟩, rfl⟩, ?_⟩
  · rw [sM.2.2]
    refine tp.lnk.cong (fun z hz => ?_)
    by_cases q : z = a
    · rw [q, k6 4 (by decide), o1.2.2]
    · exact (S2 z q).2.2 4
  · rw [rw'.rf, List.cons_append, rr]; rfl
  · exact S2 z (fun q => (List.nodup_cons.mp tp.nd).1 (by rw [← q]; exact hz))
  · rw [rw'.f45]; exact (Int.toNat_of_nonneg hpb).symm
  · unfold DpOk; omega
  · refine (sr.xenv (s' := w2.1 a) (see' := nsee σ') (K := (X.A 6 nd).toInt.toNat) (t := t0) (fun k hk hne => ?_) (fun k hk hne => ?_) ?_)
    · rw [k1 k hk, if_neg hne]; exact (o1.same (Ne.symm nat)).1 k
    · rw [rw'.see k hk, if_neg hne]
    · rw [k1 _ hK, if_pos rfl, rw'.see _ hK, if_pos rfl]
      exact (vr.sub hX.fo sb).sub hX.fo sb2
  · rw [e48]; omega
end
end
