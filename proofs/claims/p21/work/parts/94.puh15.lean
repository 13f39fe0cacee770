-- pure rows: HU
section
/-! pure rows: steps that only the frame on top is changed by -/
section
variable {cs : Nat → ClassId} {lim dE : Nat × Nat} {A : Ad} {r1 r2 NF : Nat} {X : Cx} {G : Nat → Int32} {k4 : Nat} {S S' : Sto} {μ μ' : Mp} {fa ta : Nat → Nat} {nf nt u v : Nat} {own : Nat → Nat} {Lf : List Nat} {Wk : Nat → Nat} {M M' : gMem} {w w' : Vw} {σ σ' : mSt}
theorem SimC.same (h : (SimC cs lim dE A r1 r2 NF X G k4) S μ fa ta nf nt u v own Lf Wk M w σ) (vs' : (VS cs lim dE A r1 r2 NF G k4) fa ta nf nt M' w') (hs : Same w w' A.st) (ht : ∀ i, i < v → Same w w' (ta i)) (ho : ∀ c, 2 ≤ own c → Same w w' c) (hp : HpE σ σ') (ar : Arr X σ') (th' : w'.2.1 A.ma 7 = σ'.1 48 ∧ 0 ≤ (σ'.1 48).toInt ∧ (σ'.1 48).toInt ≤ 1000) (dp' : w'.2.1 A.ma 8 = σ'.1 49 ∧ 0 ≤ (σ'.1 49).toInt ∧ (σ'.1 49).toInt ≤ 400) (fu' : w'.2.1 A.ma 6 = σ'.1 47) (un' : w'.2.1 A.ma 9 = -1) (va' : w'.2.1 A.ma 5 = 0) (mo : (σ.1 48).toInt ≤ (σ'.1 48).toInt) (mf : (σ.1 47).toInt ≤ (σ'.1 47).toInt) : (SimC cs lim dE A r1 r2 NF X G k4) S μ fa ta nf nt u v own Lf Wk M' w' σ' := by
  have ek : kfr σ' = kfr σ := kfr_of (fun k hk => hp.a k (by omega)) (fun k hk => hp.al k (by omega))
  refine ⟨vs', by rw [hs.2.1]; exact h.su, h.uN, by rw [hs.2.1]; exact h.sv, h.v1, ⟨by rw [hs.2.2]; exact h.lf.1.cong (fun c hc => (ho c (by rw [h.lf.2.2 c hc]; omega)).2.2 4), h.lf.2⟩, h.ou, th', dp', fu', un', va', by rw [hp.f 56 (by omega)]; exact h.nf, by rw [hp.f 61 (by omega)]; exact h.nk, ar, fun f hf => ?_, fun k hk => ?_, h.ki, ?_, by have := h.vt; omega, by have := h.sn; omega, by have := h.uf; omega⟩
  · rw [hp.a 54 (by omega), hp.al 55 (by omega)]
    exact (h.fn f hf).mono hf Sto.le.rfl' MpLe.rfl' (Nat.le_refl _) (fun i hi => ⟨rfl, (ht i hi).T⟩)
  · have kk := h.kn k hk
    have hlt : μ.2 k < v := by obtain ⟨_, _, ⟨z, _⟩, _⟩ := kk; exact z
    refine kk.mono hk Sto.le.rfl' MpLe.rfl' (Nat.le_refl _) (fun i hi => ⟨rfl, (ht i hi).T⟩) ((ht _ hlt).2.1 3) (fun c hc => ⟨ho c (by omega), hc⟩) (by rw [hp.a 60 (by omega)]) (by rw [hp.a 59 (by omega)]) ?_ rfl
    rw [hp.a 57 (by omega), hp.a 58 (by omega)]
    exact kfs_c (fun i _ _ => by rw [ek])
  · have := h.hw
    omega
/-- things in use are things -/
theorem SimC.tv (h : (SimC cs lim dE A r1 r2 NF X G k4) S μ fa ta nf nt u v own Lf Wk M w σ) {z : Nat} (hz : FsO ta v z) : FsO ta nt z := by
  obtain ⟨i, i1, i2⟩ := hz
  exact ⟨i, by have := h.v1.2; omega, i2⟩
theorem SimC.fs (h : (SimC cs lim dE A r1 r2 NF X G k4) S μ fa ta nf nt u v own Lf Wk M w σ) {c : Nat} (hc : own c ≠ 0) : FsO fa nf c := by
  obtain ⟨i, i1, i2⟩ := h.ou c hc
  have := h.vs.used h.su h.uN
  exact ⟨i, by omega, i2⟩
/-- only the frame a has changed -/
theorem SimC.oth (h : (SimC cs lim dE A r1 r2 NF X G k4) S μ fa ta nf nt u v own Lf Wk M w σ) (vs' : (VS cs lim dE A r1 r2 NF G k4) fa ta nf nt M' w') {a : Nat} (ha : FsO fa nf a) (ho : own a = 1) (o : Oth1 w w' a) (hp : HpE σ σ') (ar : Arr X σ') (f : ∀ k, 47 ≤ k → k ≤ 49 → σ'.1 k = σ.1 k) : (SimC cs lim dE A r1 r2 NF X G k4) S μ fa ta nf nt u v own Lf Wk M' w' σ' := by
  have nm := h.vs.neFM ha
  have ns := h.vs.neFS ha
  have sm := o.same (Ne.symm nm)
  refine h.same vs' (o.same (Ne.symm ns)) (fun i hi => o.same (fun z => h.vs.neFT ha (h.tv ⟨i, hi, rfl⟩) z.symm)) (fun c hc => o.same (fun z => by rw [z, ho] at hc; omega)) hp ar ?_ ?_ ?_ ?_ ?_ ?_ ?_
  · rw [sm.2.1, f 48 (by omega) (by omega)]; exact h.th
  · rw [sm.2.1, f 49 (by omega) (by omega)]; exact h.dp
  · rw [sm.2.1, f 47 (by omega) (by omega)]; exact h.fu
  · rw [sm.2.1]; exact h.un
  · rw [sm.2.1]; exact h.va
  · rw [f 48 (by omega) (by omega)]; omega
  · rw [f 47 (by omega) (by omega)]; omega
end
/-- a step of the class -/
def CStp (cs : Nat → ClassId) (dE : Nat × Nat) (A : Ad) (M M' : gMem) : Prop := ∃ a, cI M A.ma 4 = 1 ∧ cI M A.ma 13 = 0 ∧ cQ M A.ma 10 = some a ∧ ∀ n, 500 ≤ n → F_Ma_work cs dE n M A.ma (some a) (cI M a 2) = M'
def CSts (cs : Nat → ClassId) (dE : Nat × Nat) (A : Ad) : Nat → gMem → gMem → Prop
  | 0, M, M' => M = M'
  | k + 1, M, M' => ∃ M1, CStp cs dE A M M1 ∧ CSts cs dE A k M1 M'
theorem CSts.one {cs : Nat → ClassId} {dE : Nat × Nat} {A : Ad} {M M' : gMem} (h : CStp cs dE A M M') : CSts cs dE A 1 M M' := ⟨M', h, rfl⟩
theorem CSts.trans {cs : Nat → ClassId} {dE : Nat × Nat} {A : Ad} : ∀ {k l : Nat} {M M1 M2 : gMem}, CSts cs dE A k M M1 → CSts cs dE A l M1 M2 → CSts cs dE A (k + l) M M2 := by
  intro k
  induction k with
  | zero => intro l M M1 M2 h g; cases h; rw [Nat.zero_add]; exact g
  | succ k ih =>
    intro l M M1 M2 h g
    obtain ⟨M3, h1, h2⟩ := h
    rw [show k + 1 + l = (k + l) + 1 by omega]
    exact ⟨M3, h1, ih h2 g⟩
/-- the machine runs, with so much fuel -/
def Rn (A : Ad) (NF : Nat) (w : Vw) (σ : mSt) (al tk : Nat) : Prop := (w.2.1 A.ma 4 = 1) ∧ (w.2.1 A.ma 13 = 0) ∧ (w.2.1 A.ma 11 = nI al) ∧ (w.2.1 A.ma 12 = nI tk) ∧ (tk ≤ al ∧ al ≤ 200) ∧ (σ.1 46 = 1) ∧ ((σ.1 47).toInt + (al - tk : Nat) + 1001 ≤ NF)
theorem Rn.st {A : Ad} {NF : Nat} {w : Vw} {σ : mSt} {al tk : Nat} (self : Rn A NF w σ al tk) : w.2.1 A.ma 4 = 1 := self.1
theorem Rn.wt {A : Ad} {NF : Nat} {w : Vw} {σ : mSt} {al tk : Nat} (self : Rn A NF w σ al tk) : w.2.1 A.ma 13 = 0 := self.2.1
theorem Rn.al {A : Ad} {NF : Nat} {w : Vw} {σ : mSt} {al tk : Nat} (self : Rn A NF w σ al tk) : w.2.1 A.ma 11 = nI al := self.2.2.1
theorem Rn.tk {A : Ad} {NF : Nat} {w : Vw} {σ : mSt} {al tk : Nat} (self : Rn A NF w σ al tk) : w.2.1 A.ma 12 = nI tk := self.2.2.2.1
theorem Rn.le {A : Ad} {NF : Nat} {w : Vw} {σ : mSt} {al tk : Nat} (self : Rn A NF w σ al tk) : tk ≤ al ∧ al ≤ 200 := self.2.2.2.2.1
theorem Rn.en {A : Ad} {NF : Nat} {w : Vw} {σ : mSt} {al tk : Nat} (self : Rn A NF w σ al tk) : σ.1 46 = 1 := self.2.2.2.2.2.1
theorem Rn.fl {A : Ad} {NF : Nat} {w : Vw} {σ : mSt} {al tk : Nat} (self : Rn A NF w σ al tk) : (σ.1 47).toInt + (al - tk : Nat) + 1001 ≤ NF := self.2.2.2.2.2.2
section
variable {cs : Nat → ClassId} {lim dE : Nat × Nat} {A : Ad} {r1 r2 NF : Nat} {X : Cx} {G : Nat → Int32} {k4 : Nat} {S S' : Sto} {μ μ' : Mp} {fa ta : Nat → Nat} {nf nt u v : Nat} {own : Nat → Nat} {Lf : List Nat} {Wk : Nat → Nat} {M M' : gMem} {w w' : Vw} {σ σ' : mSt} {al tk a h r : Nat} {s : Nat → Int32}
theorem Rn.oth (h : Rn A NF w σ al tk) {a : Nat} (o : Oth1 w w' a) (ha : A.ma ≠ a) (e : σ'.1 46 = σ.1 46) (e7 : σ'.1 47 = σ.1 47) : Rn A NF w' σ' al tk := by
  have sm := o.same ha
  exact ⟨by rw [sm.2.1]; exact h.st, by rw [sm.2.1]; exact h.wt, by rw [sm.2.1]; exact h.al, by rw [sm.2.1]; exact h.tk, h.le, by rw [e]; exact h.en, by rw [e7]; exact h.fl⟩
/-- the class works the frame on top -/
theorem SimC.stp (c : (SimC cs lim dE A r1 r2 NF X G k4) S μ fa ta nf nt u v own Lf Wk M w σ) (rn : Rn A NF w σ al tk) (ht : w.2.2 A.ma 10 = some a) (ha : FsO fa nf a) (f : FSt w a s h r) (e : ∀ n, 500 ≤ n → F_Ma_work cs dE n M A.ma (some a) (nI r) = M') : CStp cs dE A M M' := by
  have kM : FsO fa nf A.ma ∨ FsO ta nt A.ma ∨ A.ma = A.ma ∨ A.ma = A.st := Or.inr (Or.inr (Or.inl rfl))
  refine ⟨a, by rw [c.vs.I kM]; exact rn.st, by rw [c.vs.I kM]; exact rn.wt, by rw [c.vs.Q kM]; exact ht, fun n hn => ?_⟩
  rw [c.vs.I (Or.inl ha), f.2.2]
  exact e n hn
theorem op_of {x : Int} {y : Int32} (h : cOp G r = x) (hy : y.toInt = x) : G (r * 5) = y := by
  unfold cOp at h
  exact Int32.toInt_inj.mp (by rw [h, hy])
theorem SimC.fsa (c : (SimC cs lim dE A r1 r2 NF X G k4) S μ fa ta nf nt u v own Lf Wk M w σ) (ho : own a = 1) : FsO fa nf a := c.fs (by rw [ho]; decide)
theorem SimC.one (c : (SimC cs lim dE A r1 r2 NF X G k4) S μ fa ta nf nt u v own Lf Wk M w σ) (rn : Rn A NF w σ al tk) (ht : w.2.2 A.ma 10 = some a) (ha : FsO fa nf a) (ho : own a = 1) (f : FSt w a s h r) (g : (VS cs lim dE A r1 r2 NF G k4) fa ta nf nt M' w') (o : Oth1 w w' a) (e : ∀ n : Nat, F_Ma_work cs dE n M A.ma (some a) (nI r) = M') : CStp cs dE A M M' ∧ (SimC cs lim dE A r1 r2 NF X G k4) S μ fa ta nf nt u v own Lf Wk M' w' σ ∧ Rn A NF w' σ al tk ∧ w'.2.2 A.ma 10 = some a :=
  ⟨c.stp rn ht ha f (fun n _ => e n), c.oth g ha ho o HpE.rfl' c.ar (fun _ _ _ => rfl), rn.oth o (Ne.symm (c.vs.neFM ha)) rfl rfl, by rw [o.2.2]; exact ht⟩
/-- what a step that only the frame on top is changed by leaves -/
def St1 (cs : Nat → ClassId) (lim dE : Nat × Nat) (A : Ad) (r1 r2 NF : Nat) (X : Cx) (G : Nat → Int32) (k4 : Nat) (S : Sto) (μ : Mp) (fa ta : Nat → Nat) (nf nt u v : Nat) (own : Nat → Nat) (Lf : List Nat) (Wk : Nat → Nat) (M : gMem) (w : Vw) (σ : mSt) (al tk a : Nat) (s : Nat → Int32) (h r : Nat) : Prop :=
  ∃ M' w', (CStp cs dE A M M' ∧ SimC cs lim dE A r1 r2 NF X G k4 S μ fa ta nf nt u v own Lf Wk M' w' σ ∧ Rn A NF w' σ al tk ∧ w'.2.2 A.ma 10 = some a) ∧ FSt w' a s h r ∧ Oth1 w w' a
theorem stp_push (c : (SimC cs lim dE A r1 r2 NF X G k4) S μ fa ta nf nt u v own Lf Wk M w σ) (rn : Rn A NF w σ al tk) (ht : w.2.2 A.ma 10 = some a) (ho : own a = 1) (f : FSt w a s h r) (h10 : 10 ≤ h) (h50 : h < 50) (hr : r ≤ 1700) (op : cOp G r = 1) : (St1 cs lim dE A r1 r2 NF X G k4 S μ fa ta nf nt u v own Lf Wk M w σ al tk) a (upd s h (cFd G r 1)) (h + 1) (r + 1) := by
  have ha := c.fsa ho
  obtain ⟨w1, g1, f1, o1, e⟩ := c.vs.work ha f (by omega) (op_of (y := 1) op rfl)
  obtain ⟨w2, g2, f2, o2⟩ := g1.fPush ha f1 h10 h50 (cFd G r 1)
  exact ⟨_, w2, c.one rn ht ha ho f g2 (o1.trans o2) (fun n => (e n).1 rfl), f2, o1.trans o2⟩
theorem stp_load {K : Nat} (c : (SimC cs lim dE A r1 r2 NF X G k4) S μ fa ta nf nt u v own Lf Wk M w σ) (rn : Rn A NF w σ al tk) (ht : w.2.2 A.ma 10 = some a) (ho : own a = 1) (f : FSt w a s h r) (h10 : 10 ≤ h) (h50 : h < 50) (hr : r ≤ 1700) (op : cOp G r = 2) (fd : cFd G r 1 = nI K) (hK : K < 10) : (St1 cs lim dE A r1 r2 NF X G k4 S μ fa ta nf nt u v own Lf Wk M w σ al tk) a (upd s h (s K)) (h + 1) (r + 1) := by
  have ha := c.fsa ho
  obtain ⟨w1, g1, f1, o1, e⟩ := c.vs.work ha f (by omega) (op_of (y := 2) op rfl)
  obtain ⟨w2, g2, f2, o2⟩ := g1.fPush ha f1 h10 h50 (s K)
  exact ⟨_, w2, c.one rn ht ha ho f g2 (o1.trans o2) (fun n => by rw [(e n).2.1 rfl, g1.fVal ha f1 fd hK]), f2, o1.trans o2⟩
theorem stp_bind {K : Nat} (c : (SimC cs lim dE A r1 r2 NF X G k4) S μ fa ta nf nt u v own Lf Wk M w σ) (rn : Rn A NF w σ al tk) (ht : w.2.2 A.ma 10 = some a) (ho : own a = 1) (f : FSt w a s (h + 1) r) (h10 : 10 ≤ h) (h50 : h < 50) (hr : r ≤ 1700) (op : cOp G r = 3) (fd : cFd G r 1 = nI K) (hK : K < 10) : (St1 cs lim dE A r1 r2 NF X G k4 S μ fa ta nf nt u v own Lf Wk M w σ al tk) a (upd (upd s h (s K)) K (s h)) (h + 1) (r + 1) := by
  have ha := c.fsa ho
  obtain ⟨w1, g1, f1, o1, e⟩ := c.vs.work ha f (by omega) (op_of (y := 3) op rfl)
  obtain ⟨w2, g2, f2, o2⟩ := g1.fBind ha f1 h10 h50 fd hK
  exact ⟨_, w2, c.one rn ht ha ho f g2 (o1.trans o2) (fun n => (e n).2.2.1 rfl), f2, o1.trans o2⟩
theorem stp_unbind {K : Nat} (c : (SimC cs lim dE A r1 r2 NF X G k4) S μ fa ta nf nt u v own Lf Wk M w σ) (rn : Rn A NF w σ al tk) (ht : w.2.2 A.ma 10 = some a) (ho : own a = 1) (f : FSt w a s (h + 2) r) (h10 : 10 ≤ h) (h50 : h + 1 < 50) (hr : r ≤ 1700) (op : cOp G r = 4) (fd : cFd G r 1 = nI K) (hK : K < 10) : (St1 cs lim dE A r1 r2 NF X G k4 S μ fa ta nf nt u v own Lf Wk M w σ al tk) a (upd (upd s K (s h)) h (s (h + 1))) (h + 1) (r + 1) := by
  have ha := c.fsa ho
  obtain ⟨w1, g1, f1, o1, e⟩ := c.vs.work ha f (by omega) (op_of (y := 4) op rfl)
  obtain ⟨w2, g2, f2, o2⟩ := g1.fUnbind ha f1 h10 h50 fd hK
  exact ⟨_, w2, c.one rn ht ha ho f g2 (o1.trans o2) (fun n => (e n).2.2.2.1 rfl), f2, o1.trans o2⟩
theorem stp_jump {r' : Nat} (c : (SimC cs lim dE A r1 r2 NF X G k4) S μ fa ta nf nt u v own Lf Wk M w σ) (rn : Rn A NF w σ al tk) (ht : w.2.2 A.ma 10 = some a) (ho : own a = 1) (f : FSt w a s h r) (hr : r ≤ 1700) (op : cOp G r = 5) (fd : cFd G r 1 = nI r') : (St1 cs lim dE A r1 r2 NF X G k4 S μ fa ta nf nt u v own Lf Wk M w σ al tk) a s h r' := by
  have ha := c.fsa ho
  obtain ⟨w1, g1, f1, o1, e⟩ := c.vs.work ha f (by omega) (op_of (y := 5) op rfl)
  obtain ⟨w2, g2, f2, o2⟩ := g1.fRow ha f1 fd
  exact ⟨_, w2, c.one rn ht ha ho f g2 (o1.trans o2) (fun n => (e n).2.2.2.2.1 rfl), f2, o1.trans o2⟩
theorem stp_jif {r' : Nat} (c : (SimC cs lim dE A r1 r2 NF X G k4) S μ fa ta nf nt u v own Lf Wk M w σ) (rn : Rn A NF w σ al tk) (ht : w.2.2 A.ma 10 = some a) (ho : own a = 1) (f : FSt w a s (h + 1) r) (h10 : 10 ≤ h) (h50 : h < 50) (hr : r ≤ 1700) (op : cOp G r = 6) (fd : cFd G r 1 = nI r') : (St1 cs lim dE A r1 r2 NF X G k4 S μ fa ta nf nt u v own Lf Wk M w σ al tk) a s h (if s h = 0 then r' else r + 1) := by
  have ha := c.fsa ho
  obtain ⟨w1, g1, f1, o1, e⟩ := c.vs.work ha f (by omega) (op_of (y := 6) op rfl)
  obtain ⟨e2, w2, g2, f2, o2⟩ := g1.fPop ha f1 h10 h50
  by_cases z : s h = 0
  · obtain ⟨w3, g3, f3, o3⟩ := g2.fRow ha f2 fd
    rw [if_pos z]
    exact ⟨_, w3, c.one rn ht ha ho f g3 ((o1.trans o2).trans o3) (fun n => by rw [(e n).2.2.2.2.2.1 rfl, e2, if_pos z]), f3, (o1.trans o2).trans o3⟩
  · obtain ⟨w3, g3, f3, o3⟩ := g2.fRow ha f2 (nI_succ r).symm
    rw [if_neg z]
    exact ⟨_, w3, c.one rn ht ha ho f g3 ((o1.trans o2).trans o3) (fun n => by rw [(e n).2.2.2.2.2.1 rfl, e2, if_neg z]), f3, (o1.trans o2).trans o3⟩
theorem stp_two (c : (SimC cs lim dE A r1 r2 NF X G k4) S μ fa ta nf nt u v own Lf Wk M w σ) (rn : Rn A NF w σ al tk) (ht : w.2.2 A.ma 10 = some a) (ho : own a = 1) (f : FSt w a s (h + 2) r) (h10 : 10 ≤ h) (h50 : h + 1 < 50) (hr : r ≤ 1700) (op : cOp G r = 7) : (St1 cs lim dE A r1 r2 NF X G k4 S μ fa ta nf nt u v own Lf Wk M w σ al tk) a (upd s h (two32 (cFd G r 1) (s h) (s (h + 1)))) (h + 1) (r + 1) := by
  have ha := c.fsa ho
  obtain ⟨w1, g1, f1, o1, e⟩ := c.vs.work ha f (by omega) (op_of (y := 7) op rfl)
  obtain ⟨w2, g2, f2, o2⟩ := g1.fCombine (x := cFd G r 1) ha f1 h10 h50
  exact ⟨_, w2, c.one rn ht ha ho f g2 (o1.trans o2) (fun n => (e n).2.2.2.2.2.2.1 rfl), f2, o1.trans o2⟩
end
end
