-- pure rows: IB
section
/-! pure rows: a node is worked: atoms, and nodes that wait for a part -/
/-- the run has ended, for class and reference alike -/
def FinA (cs : Nat → ClassId) (lim dE : Nat × Nat) (A : Ad) (r1 r2 NF : Nat) (G : Nat → Int32) (k4 ut : Nat) (M : gMem) (σ : mSt) (tk : Nat) : Prop :=
  ∃ (fa ta : Nat → Nat) (nf nt : Nat) (w : Vw), VS cs lim dE A r1 r2 NF G k4 fa ta nf nt M w ∧ σ.1 46 ≠ 1 ∧ σ.1 46 ≠ 0 ∧ w.2.1 A.ma 4 = σ.1 46 ∧ w.2.1 A.ma 6 = σ.1 47 ∧ w.2.1 A.ma 7 = σ.1 48 ∧ w.2.1 A.ma 8 = σ.1 49 ∧ w.2.1 A.ma 9 = (if σ.1 46 = 4 then σ.1 50 else -1) ∧ w.2.1 A.ma 12 = nI tk ∧ (σ.1 46 ≠ 2 → w.2.1 A.ma 5 = 0) ∧ (σ.1 46 = 2 → (w.2.1 A.ma 3 = 0 → w.2.1 A.ma 5 = 0) ∧ (w.2.1 A.ma 3 ≠ 0 → ut < 3 → (w.2.1 A.ma 5).toInt = σ.2.1.toInt))
def EnA (cs : Nat → ClassId) (lim dE : Nat × Nat) (A : Ad) (r1 r2 NF : Nat) (G : Nat → Int32) (k4 ut : Nat) (M : gMem) (σ' : mSt) (tk Φ : Nat) : Prop := ∃ (k : Nat) (M' : gMem), CSts cs dE A k M M' ∧ FinA cs lim dE A r1 r2 NF G k4 ut M' σ' tk ∧ k ≤ Φ
section
variable {X : Cx} {σ σ' σ1 : mSt} {F n nd : Nat} {x x1 : Int32}
theorem wn_way (arr : Arr X σ) (f45 : (σ.1 45).toInt = nd) (hN : nd < X.N) :
    ((X.A 5 nd).toInt = 0 ∨ (X.A 5 nd).toInt = 1 → F_Mo_workNode n σ = F_Mo_give σ (X.A 6 nd).toInt64) ∧
    ((X.A 5 nd).toInt = 2 → F_Mo_workNode n σ = F_Mo_give σ 0) ∧
    ((X.A 5 nd).toInt = 3 → F_Mo_workNode n σ = F_Mo_give σ (σ.2.2.2 53 (X.A 6 nd).toInt.toNat)) ∧
    ((X.A 5 nd).toInt = 4 ∨ (X.A 5 nd).toInt = 6 ∨ (X.A 5 nd).toInt = 9 ∨ (X.A 5 nd).toInt = 10 ∨ (X.A 5 nd).toInt = 11 → F_Mo_workNode n σ = F_Mo_work (F_Mo_push n σ (σ.1 45)) ((F_Mo_push n σ (σ.1 45)).2.2.1 9 nd)) ∧
    ((X.A 5 nd).toInt = 5 → F_Mo_workNode n σ = if (F_Mo_makes n σ (σ.1 45)).1 = 0 then (F_Mo_makes n σ (σ.1 45)).2 else F_Mo_work (mo_al (F_Mo_makes n σ (σ.1 45)).2 53 ((F_Mo_makes n σ (σ.1 45)).2.2.2.1 6 nd).toNatClampNeg ((F_Mo_makes n σ (σ.1 45)).2.1 56 - 1).toInt64) ((F_Mo_makes n σ (σ.1 45)).2.2.2.1 10 nd)) ∧
    ((X.A 5 nd).toInt = 7 → F_Mo_workNode n σ = if (F_Mo_makes n σ (σ.1 45)).1 = 0 then (F_Mo_makes n σ (σ.1 45)).2 else F_Mo_give (F_Mo_makes n σ (σ.1 45)).2 ((F_Mo_makes n σ (σ.1 45)).2.1 56 - 1).toInt64) ∧
    ((X.A 5 nd).toInt = 8 → F_Mo_workNode n σ = if σ.1 48 = 1000 then mo_si σ 46 5 else if σ.1 49 = 400 then mo_si σ 46 6 else F_Mo_work (F_Mo_push n (mo_si (mo_si σ 48 (σ.1 48 + 1)) 49 (σ.1 49 + 1)) (σ.1 45)) ((F_Mo_push n (mo_si (mo_si σ 48 (σ.1 48 + 1)) 49 (σ.1 49 + 1)) (σ.1 45)).2.2.1 9 nd)) := by
  have en1 : (σ.1 45).toNatClampNeg = nd := by show (σ.1 45).toInt.toNat = nd; omega
  have e5 := arr 5 (by omega) (by omega) nd hN
  have e6 := arr 6 (by omega) (by omega) nd hN
  have kp : ∀ {z : Int32} {y : Int}, z.toInt = y → (X.A 5 nd).toInt = y → X.A 5 nd = z := fun h1 h2 => Int32.toInt_inj.mp (by rw [h1, h2])
  refine ⟨fun h => ?_, fun h => ?_, fun h => ?_, fun h => ?_, fun h => ?_, fun h => ?_, fun h => ?_⟩
  · rcases h with h | h
    · have hk := kp (z := 0) (y := 0) rfl h
      simp (decide := true) only [F_Mo_workNode, en1, e5, e6, hk, if_true, if_false, mbind_eq]
    · have hk := kp (z := 1) (y := 1) rfl h
      simp (decide := true) only [F_Mo_workNode, en1, e5, e6, hk, if_true, if_false, mbind_eq]
  · have hk := kp (z := 2) (y := 2) rfl h
    simp (decide := true) only [F_Mo_workNode, en1, e5, e6, hk, if_true, if_false, mbind_eq]
  · have hk := kp (z := 3) (y := 3) rfl h
    have y6 : (X.A 6 nd).toNatClampNeg = (X.A 6 nd).toInt.toNat := rfl
    simp (decide := true) only [F_Mo_workNode, en1, e5, e6, hk, if_true, if_false, mbind_eq, y6]
  · rcases h with h | h | h | h | h
    · have hk := kp (z := 4) (y := 4) rfl h
      simp (decide := true) only [F_Mo_workNode, en1, e5, e6, hk, if_true, if_false, mbind_eq]
    · have hk := kp (z := 6) (y := 6) rfl h
      simp (decide := true) only [F_Mo_workNode, en1, e5, e6, hk, if_true, if_false, mbind_eq]
    · have hk := kp (z := 9) (y := 9) rfl h
      simp (decide := true) only [F_Mo_workNode, en1, e5, e6, hk, if_true, if_false, mbind_eq]
    · have hk := kp (z := 10) (y := 10) rfl h
      simp (decide := true) only [F_Mo_workNode, en1, e5, e6, hk, if_true, if_false, mbind_eq]
    · have hk := kp (z := 11) (y := 11) rfl h
      simp (decide := true) only [F_Mo_workNode, en1, e5, e6, hk, if_true, if_false, mbind_eq]
  · have hk := kp (z := 5) (y := 5) rfl h
    simp (decide := true) only [F_Mo_workNode, en1, e5, e6, hk, if_true, if_false, mbind_eq, al_3]
  · have hk := kp (z := 7) (y := 7) rfl h
    simp (decide := true) only [F_Mo_workNode, en1, e5, e6, hk, if_true, if_false, mbind_eq]
  · have hk := kp (z := 8) (y := 8) rfl h
    simp (decide := true) only [F_Mo_workNode, en1, e5, e6, hk, if_true, if_false, mbind_eq, si_1, F_Mo_workNode_j181]
    by_cases h1 : σ.1 48 = 1000
    · simp only [if_pos h1]
    · simp only [if_neg h1]
theorem Rg.give (f44 : (σ.1 44).toInt = F) (v : Int64) : Rg σ (F_Mo_give σ v) F (rfs σ F) v ∧ HpE σ (F_Mo_give σ v) ∧ (F_Mo_give σ v).1 48 = σ.1 48 ∧ (F_Mo_give σ v).1 49 = σ.1 49 := by
  have g : ∀ k, k ≠ 51 → (F_Mo_give σ v).1 k = σ.1 k := fun k a => by simp only [F_Mo_give, si_1, sl_1]; rw [if_neg a]
  exact ⟨⟨by rw [g 44 (by omega)]; exact f44, rfs_c (fun i _ => rfl), by simp [si_1, si_2, sl_1, sl_2, sl_3, ai_1, ai_2, ai_3, ai_4, al_1, al_2, al_3, al_4, cp_1, cp_2, cp_3, cp_4, F_Mo_give], rfl, fun _ _ => rfl, g 46 (by omega), g 47 (by omega)⟩, ⟨fun k hk => g k (by omega), fun _ _ => rfl, fun _ _ => rfl⟩, g 48 (by omega), g 49 (by omega)⟩
/-- a node is pushed, and its first part worked -/
theorem Rw.push {σ0 : mSt} (hF : F < 17000) (f44 : (σ.1 44).toInt = F) (hn : 12 ≤ n) (h0 : ∀ k, k ≠ 48 → k ≠ 49 → σ.1 k = σ0.1 k) (h1 : σ.2 = σ0.2) (hN : nd < X.N) (arr : Arr X σ0) : Rw σ0 (F_Mo_work (F_Mo_push n σ x) ((F_Mo_push n σ x).2.2.1 9 nd)) (F + 1) (⟨x, 0, 0, nsee σ0⟩ :: rfs σ0 F) (X.A 9 nd) (nsee σ0) ∧ HpE σ0 (F_Mo_work (F_Mo_push n σ x) ((F_Mo_push n σ x).2.2.1 9 nd)) ∧ (F_Mo_work (F_Mo_push n σ x) ((F_Mo_push n σ x).2.2.1 9 nd)).1 48 = σ.1 48 ∧ (F_Mo_work (F_Mo_push n σ x) ((F_Mo_push n σ x).2.2.1 9 nd)).1 49 = σ.1 49 := by
  obtain ⟨-, p⟩ := push_ok (σ := σ) (F := F) hF f44 (x := x) hn
  have e9 : (F_Mo_push n σ x).2.2.1 9 nd = X.A 9 nd := by rw [p.a 9 (by omega) (by omega), h1]; exact arr 9 (by omega) (by omega) nd hN
  rw [e9]
  generalize F_Mo_push n σ x = σp at *
  have es : nsee σ = nsee σ0 := by unfold nsee; rw [h1]
  have ef : frm σ = frm σ0 := frm_of (fun k _ => by rw [h1]) (fun k _ => by rw [h1])
  have g : ∀ k, k ≠ 44 → k ≠ 45 → k ≠ 51 → (F_Mo_work σp (X.A 9 nd)).1 k = σ.1 k := fun k a b c => by simp only [F_Mo_work, si_1]; rw [if_neg c, if_neg b, p.f k a]
  refine ⟨⟨?_, ?_, by simp [si_1, si_2, sl_1, sl_2, sl_3, ai_1, ai_2, ai_3, ai_4, al_1, al_2, al_3, al_4, cp_1, cp_2, cp_3, cp_4, F_Mo_work], by simp [si_1, si_2, sl_1, sl_2, sl_3, ai_1, ai_2, ai_3, ai_4, al_1, al_2, al_3, al_4, cp_1, cp_2, cp_3, cp_4, F_Mo_work], fun k hk => ?_, fun k hk => ?_, ?_, ?_⟩, ⟨fun k hk => ?_, fun k hk => ?_, fun k hk => ?_⟩, g 48 (by omega) (by omega) (by omega), g 49 (by omega) (by omega) (by omega)⟩
  · simp only [F_Mo_work, si_1]; rw [if_neg (by omega), if_neg (by omega)]; exact p.f44
  · show frm (F_Mo_work σp (X.A 9 nd)) F :: rfs (F_Mo_work σp (X.A 9 nd)) F = _
    have ee : frm (F_Mo_work σp (X.A 9 nd)) = frm σp := rfl
    rw [ee, p.fr F, if_pos rfl, es, rfs_c (σ := σ0) (fun i hi => by rw [ee, p.fr i, if_neg (by omega), ef])]
  · have : nsee (F_Mo_work σp (X.A 9 nd)) = nsee σ0 := by
      rw [← es]; unfold nsee; show seen (σp.2.2.2 53) 0 = _; rw [p.al 53 (by omega) (by omega)]
    rw [this]
  · show σp.2.2.1 k = _; rw [p.a k (by omega) (by omega), h1]
  · rw [g 46 (by omega) (by omega) (by omega), h0 46 (by omega) (by omega)]
  · rw [g 47 (by omega) (by omega) (by omega), h0 47 (by omega) (by omega)]
  · rw [g k (by omega) (by omega) (by omega), h0 k (by omega) (by omega)]
  · show σp.2.2.1 k = _; rw [p.a k (by omega) (by omega), h1]
  · show σp.2.2.2 k = _; rw [p.al k (by omega) (by omega), h1]
end
section
variable {cs : Nat → ClassId} {lim dE : Nat × Nat} {A : Ad} {r1 r2 NF : Nat} {X : Cx} {G : Nat → Int32} {k4 : Nat} {S S' : Sto} {μ μ' : Mp} {fa ta : Nat → Nat} {nf nt u v : Nat} {own : Nat → Nat} {Lf : List Nat} {Wk : Nat → Nat} {M M' : gMem} {w w' : Vw} {σ σ' : mSt} {al tk a h r n nd d cc m W Φ l r' : Nat} {s : Nat → Int32} {mk : Fr} {ut F : Nat} {L : List Nat} {Fs : List Fr} {b : Fr} {rest : List Fr} {t u0 u1 W1 : Nat} {e : Nat} {x1 : Int32} {g : Nat → Int}
theorem Bk.bd {Tv : Nat → Prop} (p : Bk X G S μ w Tv a r s h Fs b t u1) : r ≤ 1700 ∧ 10 ≤ h ∧ h < 50 := by
  obtain ⟨_, _, _, p, _⟩ := p
  exact p.bd
theorem Bk.oth (p : Bk X G S μ w (FsO ta v) a r s h Fs b t u1) (c : (SimC cs lim dE A r1 r2 NF X G k4) S μ fa ta nf nt u v own Lf Wk M w σ) (ha : FsO fa nf a) (o : Oth1 w w' a) : Bk X G S μ w' (FsO ta v) a r s h Fs b t u1 := p.mono Sto.le.rfl' MpLe.rfl' (o.2.2 a 3) (c.tvo ha o)
/-- an atom -/
theorem now_atom (hX : X.Ok) (c : (SimC cs lim dE A r1 r2 NF X G k4) S μ fa ta nf nt u v own Lf Wk M w σ) (rn : Rn A NF w σ al tk) (tp : Tp X G S μ w (FsO ta v) A own σ mk ut F a L Fs b rest u1 W1) (f45 : (σ.1 45).toInt = nd) (gd : Gd X nd) (kd : (X.A 5 nd).toInt ≤ 3) (fs : FSt w a s h r) (cd : Cd X.A G cc nd r r') (ty : Ty X.A X.P X.tk X.gv g nd t) (sr : SR X.P S μ g s (nsee σ)) (bk : Bk X G S μ w (FsO ta v) a r' s h Fs b t u1) (hW : W + r = W1 + 1701) (hΦ : Φ = W + sumW Wk S.nk + (1000 - (σ.1 48).toInt.toNat) * 1701 + (al - tk) * 1701) : (GoA cs lim dE A r1 r2 NF X G k4 mk ut) M (F_Mo_workNode n σ) al tk Φ := by
  have ha := c.fsa tp.ow1
  have bd := bk.bd
  have lt := cd.lt
  have k0 := (hX.kd nd gd.1.1).1
  obtain ⟨y1, y2, y3, -⟩ := wn_way (n := n) c.ar f45 gd.1.1
  have go : ∀ (vl : Int64) (z : Int32), (∃ M1 w1, (CStp cs dE A M M1 ∧ (SimC cs lim dE A r1 r2 NF X G k4) S μ fa ta nf nt u v own Lf Wk M1 w1 σ ∧ Rn A NF w1 σ al tk ∧ w1.2.2 A.ma 10 = some a) ∧ FSt w1 a (upd s h z) (h + 1) (r + 1) ∧ Oth1 w w1 a) → r' = r + 1 → VR X.P S μ t z vl → (GoA cs lim dE A r1 r2 NF X G k4 mk ut) M (F_Mo_give σ vl) al tk Φ := by
    rintro vl z ⟨M1, w1, ⟨st, c1, rn1, -⟩, f1, o1⟩ er vr
    subst er
    obtain ⟨rg, hp, e48, e49⟩ := Rg.give (σ := σ) tp.f44 vl
    exact goGot (F' := F) (rx := r + 1) (h2 := h) tp c o1 c1 rn1 (CSts.one st) rg hp e48 e49 tp.hF tp.rf f1 (by rw [upd_s]; exact vr) ((bk.cong (fun j hj => by rw [upd_n (by omega)])).oth c ha o1) hW (by omega) bd.1 hΦ
  rcases Int.lt_or_le (X.A 5 nd).toInt 3 with k3 | k3
  · obtain ⟨q1, q2, q3⟩ := cd.j0 (by omega)
    have st := stp_push c rn tp.top tp.ow1 fs bd.2.1 bd.2.2 (by omega) q1
    rw [q2] at st
    by_cases k2 : (X.A 5 nd).toInt = 2
    · rw [y2 k2]
      refine go 0 _ st q3 (Or.inl ⟨?_, ?_⟩)
      · have : t = 2 := by
          cases ty using Ty.cs with
          | uni _ => rfl
          | _ => omega
        omega
      · unfold valOf
        rw [if_neg (by omega), if_neg (by omega), if_neg (by omega)]
        rfl
    · rw [y1 (by omega)]
      refine go _ _ st q3 (Or.inl ⟨?_, ?_⟩)
      · have : t < 3 := by
          cases ty using Ty.cs with
          | num _ => omega
          | tru _ => omega
          | uni _ => omega
          | _ => omega
        exact this
      · unfold valOf
        rw [if_pos (by omega), Int32.toInt_toInt64]
  · have k3' : (X.A 5 nd).toInt = 3 := by omega
    obtain ⟨q1, q2, q3⟩ := cd.j3 k3'
    obtain ⟨e6, hK⟩ := nmK hX gd.1.1 (by omega)
    rw [y3 k3']
    have st := stp_load c rn tp.top tp.ow1 fs bd.2.1 bd.2.2 (by omega) q1 (q2.trans e6) hK
    refine go _ _ st q3 ?_
    have := sr _ hK t (ty.i3 k3')
    unfold nsee seen at this
    rw [if_pos hK, Nat.zero_add] at this
    exact this
/-- a node that waits for its first part -/
theorem now_push {t1 : Nat} (hX : X.Ok) (c : (SimC cs lim dE A r1 r2 NF X G k4) S μ fa ta nf nt u v own Lf Wk M w σ) (rn : Rn A NF w σ al tk) (tp : Tp X G S μ w (FsO ta v) A own σ mk ut F a L Fs b rest u1 W1) (f45 : (σ.1 45).toInt = nd) (gd : Gd X nd) (kd : (X.A 5 nd).toInt = 4 ∨ (X.A 5 nd).toInt = 6 ∨ (X.A 5 nd).toInt = 9 ∨ (X.A 5 nd).toInt = 10 ∨ (X.A 5 nd).toInt = 11) (dp : DpOk X nd h) (h10 : 10 ≤ h) (fs : FSt w a s h r) (cd : Cd X.A G cc (X.A 9 nd).toInt.toNat r m) (ty : Ty X.A X.P X.tk X.gv g (X.A 9 nd).toInt.toNat t1) (sr : SR X.P S μ g s (nsee σ)) (hr : r ≤ 1700) (bk : Bk X G S μ w (FsO ta v) a m s h (⟨σ.1 45, 0, 0, nsee σ⟩ :: Fs) b t1 u1) (hW : W + r = W1 + 1701) (hΦ : Φ = W + sumW Wk S.nk + (1000 - (σ.1 48).toInt.toNat) * 1701 + (al - tk) * 1701) (hn : 12 ≤ n) (hb : F + 1 ≤ 16440) : (GoA cs lim dE A r1 r2 NF X G k4 mk ut) M (F_Mo_workNode n σ) al tk Φ := by
  obtain ⟨-, -, -, y4, -⟩ := wn_way (n := n) c.ar f45 gd.1.1
  rw [y4 kd]
  have k11 := (hX.kd nd gd.1.1).2
  have hpa := hX.pa nd gd.1.1 (by omega)
  have gp := gd.part hX (parts_a (n := nd) (by omega) k11)
  obtain ⟨rw', hp, e48, e49⟩ := Rw.push (X := X) (σ := σ) (σ0 := σ) (F := F) (n := n) (nd := nd) (x := σ.1 45) (by omega) tp.f44 hn (fun _ _ _ => rfl) rfl gd.1.1 c.ar
  exact goNow (F' := F + 1) (rx := r) (h2 := h) (nd := (X.A 9 nd).toInt.toNat) tp c Oth1.rfl' c rn (k := 0) rfl rw' hp e48 e49 hb (by rw [List.cons_append, tp.rf]; rfl) (Int.toNat_of_nonneg hpa).symm gp.1 (by have := gp.2.1; unfold DpOk at dp ⊢; omega) h10 fs cd ty sr bk hW (by omega) hr hΦ
end
end
