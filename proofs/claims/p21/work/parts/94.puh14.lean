-- pure rows: HT
section
/-! pure rows: the class's machine and the reference's, held together -/
/-- a function of the reference, and the thing that the class has for it -/
def FnR (X : Cx) (G : Nat → Int32) (S : Sto) (μ : Mp) (w : Vw) (ta : Nat → Nat) (v : Nat) (nd : Int32) (see : Nat → Int64) (f : Nat) : Prop :=
  ∃ (n l l' c : Nat) (g : Nat → Int), nd.toInt = n ∧ Gd X n ∧ μ.1 f < v ∧ w.2.1 (ta (μ.1 f)) 1 = nI l ∧ w.2.1 (ta (μ.1 f)) 2 = 0 ∧ Cd X.A G c n l l' ∧ l' ≤ 1700 ∧
    (((X.A 5 n).toInt = 7 ∧ SR X.P S μ g (w.1 (ta (μ.1 f))) see ∧ ∃ a t : Nat, (X.A 7 n).toInt = a ∧ Ty X.A X.P X.tk X.gv (env g (X.A 6 n).toInt.toNat a) (X.A 9 n).toInt.toNat t ∧ X.P.fn (S.ft f) a t) ∨
     ((X.A 5 n).toInt = 5 ∧ SR X.P S μ (env g (X.A 6 n).toInt.toNat (S.ft f)) (w.1 (ta (μ.1 f))) (fun k => if k = (X.A 6 n).toInt.toNat then (nI f).toInt64 else see k) ∧ ∃ a r t : Nat, X.P.fn (S.ft f) a r ∧ Ty X.A X.P X.tk X.gv (env (env g (X.A 6 n).toInt.toNat (S.ft f)) (X.A 7 n).toInt.toNat a) (X.A 9 n).toInt.toNat t ∧ X.P.fit t r))
/-- a continuation of the reference, and the thing that the class has for it -/
def KnR (X : Cx) (G : Nat → Int32) (S : Sto) (μ : Mp) (w : Vw) (ta : Nat → Nat) (v : Nat) (own : Nat → Nat) (σ : mSt) (Wk : Nat → Nat) (k : Nat) : Prop :=
  ∃ a u : Nat, (μ.2 k < v ∧ w.2.1 (ta (μ.2 k)) 2 = 1 ∧ w.2.1 (ta (μ.2 k)) 3 = σ.2.2.1 60 k ∧ w.2.1 (ta (μ.2 k)) 6 = σ.2.2.1 59 k ∧ X.P.fn (S.kt k) a u) ∧ (σ.2.2.1 60 k = 0 ∨ σ.2.2.1 60 k = 1) ∧ (σ.2.2.1 60 k ≠ 0 → Wk k = 0) ∧
    (σ.2.2.1 60 k = 0 → ∃ L : List Nat, L ≠ [] ∧ Lnk w (w.2.2 (ta (μ.2 k)) 4) L ∧ w.2.2 (ta (μ.2 k)) 5 = L.getLast? ∧ L.Nodup ∧ (∀ c, c ∈ L → own c = 3 + k) ∧ (σ.2.2.1 59 k).toInt = L.length ∧ L.length ≤ 401 ∧ Bs X G S μ w (FsO ta v) L (kfs σ (σ.2.2.1 57 k).toInt.toNat (σ.2.2.1 58 k).toInt.toNat) a u (Wk k))
def sumW (W : Nat → Nat) : Nat → Nat
  | 0 => 0
  | n + 1 => sumW W n + W n
theorem sumW_c {W W' : Nat → Nat} : ∀ {n : Nat}, (∀ i, i < n → W' i = W i) → sumW W' n = sumW W n := by
  intro n
  induction n with
  | zero => intro _; rfl
  | succ n ih =>
    intro h
    unfold sumW
    rw [h n (by omega), ih (fun i hi => h i (by omega))]
theorem sumW_set {W W' : Nat → Nat} {k x : Nat} : ∀ {n : Nat}, k < n → (∀ i, i < n → i ≠ k → W' i = W i) → W' k = x → sumW W' n + W k = sumW W n + x := by
  intro n
  induction n with
  | zero => intro h; omega
  | succ n ih =>
    intro h1 h2 h3
    unfold sumW
    by_cases q : k = n
    · subst q
      rw [sumW_c (W := W) (W' := W') (n := k) (fun i hi => h2 i (by omega) (by omega)), h3]
      omega
    · have := ih (by omega) (fun i hi hne => h2 i (by omega) hne) h3
      rw [h2 n (by omega) (fun z => q z.symm)]
      omega
theorem Lnk.cong {w w' : Vw} : ∀ {L : List Nat} {r : Option Nat}, Lnk w r L → (∀ c, c ∈ L → w'.2.2 c 4 = w.2.2 c 4) → Lnk w' r L := by
  intro L
  induction L with
  | nil => intro r h _; exact h
  | cons a L ih =>
    intro r h hc
    refine ⟨h.1, ?_⟩
    rw [hc a (by simp [si_1, si_2, sl_1, sl_2, sl_3, ai_1, ai_2, ai_3, ai_4, al_1, al_2, al_3, al_4, cp_1, cp_2, cp_3, cp_4])]
    exact ih h.2 (fun c hc' => hc c (by simp [si_1, si_2, sl_1, sl_2, sl_3, ai_1, ai_2, ai_3, ai_4, al_1, al_2, al_3, al_4, cp_1, cp_2, cp_3, cp_4, hc']))
/-- one chain set upon another -/
theorem Lnk.app {w w' : Vw} : ∀ {L1 L2 : List Nat} {r r2 : Option Nat} {z : Nat}, Lnk w r L1 → L1.getLast? = some z → (∀ c, c ∈ L1 → c ≠ z → w'.2.2 c 4 = w.2.2 c 4) → L1.Nodup → w'.2.2 z 4 = r2 → Lnk w' r2 L2 → Lnk w' r (L1 ++ L2) := by
  intro L1
  induction L1 with
  | nil => intro L2 r r2 z _ h; cases h
  | cons a L ih =>
    intro L2 r r2 z h hz hc hd hr h2
    refine ⟨h.1, ?_⟩
    cases L with
    | nil =>
      simp only [List.getLast?_singleton, Option.some.injEq] at hz
      subst hz
      rw [hr]
      exact h2
    | cons b L =>
      have hz' : (b :: L).getLast? = some z := by rw [← hz]; rfl
      have hne : a ≠ z := fun q => by
        have hm : z ∈ b :: L := List.mem_of_getLast? hz'
        have := (List.nodup_cons.mp hd).1
        rw [q] at this
        exact this hm
      rw [hc a (by simp [si_1, si_2, sl_1, sl_2, sl_3, ai_1, ai_2, ai_3, ai_4, al_1, al_2, al_3, al_4, cp_1, cp_2, cp_3, cp_4]) hne]
      exact ih h.2 hz' (fun c hc' hcz => hc c (by simp only [List.mem_cons] at hc' ⊢; exact Or.inr hc') hcz) (List.nodup_cons.mp hd).2 hr h2
/-- a chain cut behind b -/
theorem Lnk.cut {w w' : Vw} {b : Nat} {L2 : List Nat} : ∀ {L1 : List Nat} {r : Option Nat}, Lnk w r (L1 ++ b :: L2) → (∀ c, c ∈ L1 → w'.2.2 c 4 = w.2.2 c 4) → w'.2.2 b 4 = none → Lnk w' r (L1 ++ [b]) ∧ Lnk w (w.2.2 b 4) L2 := by
  intro L1
  induction L1 with
  | nil =>
    intro r h _ hb
    exact ⟨⟨h.1, hb⟩, h.2⟩
  | cons a L ih =>
    intro r h hc hb
    obtain ⟨g1, g2⟩ := ih h.2 (fun c hc' => hc c (by simp [si_1, si_2, sl_1, sl_2, sl_3, ai_1, ai_2, ai_3, ai_4, al_1, al_2, al_3, al_4, cp_1, cp_2, cp_3, cp_4, hc'])) hb
    exact ⟨⟨h.1, by rw [hc a (by simp [si_1, si_2, sl_1, sl_2, sl_3, ai_1, ai_2, ai_3, ai_4, al_1, al_2, al_3, al_4, cp_1, cp_2, cp_3, cp_4])]; exact g1⟩, g2⟩
section
variable {X : Cx} {G : Nat → Int32} {S S' : Sto} {μ μ' : Mp} {w w' : Vw} {ta ta' : Nat → Nat} {v v' : Nat} {own own' : Nat → Nat} {σ σ' : mSt} {Wk Wk' : Nat → Nat}
theorem FnR.mono {nd : Int32} {see : Nat → Int64} {f : Nat} (hf : f < S.nf) (h : FnR X G S μ w ta v nd see f) (hS : S.le S') (hm : MpLe S μ μ') (hv : v ≤ v') (ht : ∀ i, i < v → ta' i = ta i ∧ SameT w w' (ta i)) : FnR X G S' μ' w' ta' v' nd see f := by
  obtain ⟨n, l, l', c, g, a1, a2, a3, a4, a5, a6, a7, a8⟩ := h
  obtain ⟨t1, t2⟩ := ht _ a3
  have em : μ'.1 f = μ.1 f := hm.1 f hf
  have ef : S'.ft f = S.ft f := hS.ft f hf
  refine ⟨n, l, l', c, g, a1, a2, by rw [em]; omega, by rw [em, t1, t2.2.1 1 (by decide)]; exact a4, by rw [em, t1, t2.2.1 2 (by decide)]; exact a5, a6, a7, ?_⟩
  rw [em, t1, ef]
  rcases a8 with ⟨b1, b2, b3⟩ | ⟨b1, b2, b3⟩
  · exact Or.inl ⟨b1, (b2.mono hS hm).congr (fun k _ => t2.1 k) (fun _ _ => rfl), b3⟩
  · exact Or.inr ⟨b1, (b2.mono hS hm).congr (fun k _ => t2.1 k) (fun _ _ => rfl), b3⟩
theorem KnR.mono {k : Nat} (hk : k < S.nk) (h : KnR X G S μ w ta v own σ Wk k) (hS : S.le S') (hm : MpLe S μ μ') (hv : v ≤ v') (ht : ∀ i, i < v → ta' i = ta i ∧ SameT w w' (ta i)) (hg : w'.2.1 (ta (μ.2 k)) 3 = w.2.1 (ta (μ.2 k)) 3) (ho : ∀ c, own c = 3 + k → Same w w' c ∧ own' c = 3 + k) (e60 : σ'.2.2.1 60 k = σ.2.2.1 60 k) (e59 : σ'.2.2.1 59 k = σ.2.2.1 59 k) (ek : kfs σ' (σ'.2.2.1 57 k).toInt.toNat (σ'.2.2.1 58 k).toInt.toNat = kfs σ (σ.2.2.1 57 k).toInt.toNat (σ.2.2.1 58 k).toInt.toNat) (eW : Wk' k = Wk k) : KnR X G S' μ' w' ta' v' own' σ' Wk' k := by
  obtain ⟨a, u, ⟨a1, a2, a3, a4, a5⟩, a6, a7, a8⟩ := h
  obtain ⟨t1, t2⟩ := ht _ a1
  have em : μ'.2 k = μ.2 k := hm.2 k hk
  have ef : S'.kt k = S.kt k := hS.kt k hk
  unfold KnR
  rw [em, t1, e60, e59, ef, eW, ek]
  refine ⟨a, u, ⟨by omega, by rw [t2.2.1 2 (by decide)]; exact a2, by rw [hg]; exact a3, by rw [t2.2.1 6 (by decide)]; exact a4, a5⟩, a6, a7, fun h0 => ?_⟩
  obtain ⟨L, b1, b2, b3, b4, b5, b6, b7, b8⟩ := a8 h0
  refine ⟨L, b1, ?_, by rw [t2.2.2]; exact b3, b4, fun c hc => (ho c (b5 c hc)).2, b6, b7, b8.mono hS hm (fun c hc => (ho c (b5 c hc)).1) (fun z hz => ?_)⟩
  · rw [t2.2.2]
    exact b2.cong (fun c hc => (ho c (b5 c hc)).1.2.2 4)
  · obtain ⟨i, i1, i2⟩ := hz
    obtain ⟨z1, z2⟩ := ht i i1
    exact ⟨by rw [← i2]; exact z2, i, by omega, by rw [z1]; exact i2⟩
end
/-- all but the frame on top -/
def SimC (cs : Nat → ClassId) (lim dE : Nat × Nat) (A : Ad) (r1 r2 NF : Nat) (X : Cx) (G : Nat → Int32) (k4 : Nat) (S : Sto) (μ : Mp) (fa ta : Nat → Nat) (nf nt u v : Nat) (own : Nat → Nat) (Lf : List Nat) (Wk : Nat → Nat) (M : gMem) (w : Vw) (σ : mSt) : Prop := (VS cs lim dE A r1 r2 NF G k4 fa ta nf nt M w) ∧ (w.2.1 A.st 2 = nI u) ∧ (u < 110000) ∧ (w.2.1 A.st 3 = nI v) ∧ (v ≤ 1000 ∧ v ≤ nt) ∧ (Lnk w (w.2.2 A.st 4) Lf ∧ Lf.Nodup ∧ ∀ c, c ∈ Lf → own c = 2) ∧ (∀ c, own c ≠ 0 → ∃ i, i < u ∧ fa i = c) ∧ (w.2.1 A.ma 7 = σ.1 48 ∧ 0 ≤ (σ.1 48).toInt ∧ (σ.1 48).toInt ≤ 1000) ∧ (w.2.1 A.ma 8 = σ.1 49 ∧ 0 ≤ (σ.1 49).toInt ∧ (σ.1 49).toInt ≤ 400) ∧ (w.2.1 A.ma 6 = σ.1 47) ∧ (w.2.1 A.ma 9 = -1) ∧ (w.2.1 A.ma 5 = 0) ∧ ((σ.1 56).toInt = S.nf) ∧ ((σ.1 61).toInt = S.nk) ∧ (Arr X σ) ∧ (∀ f, f < S.nf → FnR X G S μ w ta v (σ.2.2.1 54 f) (seen (σ.2.2.2 55) (10 * f)) f) ∧ (∀ k, k < S.nk → KnR X G S μ w ta v own σ Wk k) ∧ (∀ k k', k < S.nk → k' < S.nk → μ.2 k = μ.2 k' → k = k') ∧ ((sumW Wk S.nk : Int) ≤ 1701 * (σ.1 48).toInt) ∧ ((v : Int) ≤ (σ.1 48).toInt) ∧ ((S.nf : Int) + S.nk ≤ (σ.1 48).toInt) ∧ ((u : Int) ≤ 1 + (σ.1 48).toInt + (σ.1 47).toInt ∧ 0 ≤ (σ.1 47).toInt)
theorem SimC.vs {cs : Nat → ClassId} {lim dE : Nat × Nat} {A : Ad} {r1 r2 NF : Nat} {X : Cx} {G : Nat → Int32} {k4 : Nat} {S : Sto} {μ : Mp} {fa ta : Nat → Nat} {nf nt u v : Nat} {own : Nat → Nat} {Lf : List Nat} {Wk : Nat → Nat} {M : gMem} {w : Vw} {σ : mSt} (self : SimC cs lim dE A r1 r2 NF X G k4 S μ fa ta nf nt u v own Lf Wk M w σ) : VS cs lim dE A r1 r2 NF G k4 fa ta nf nt M w := self.1
theorem SimC.su {cs : Nat → ClassId} {lim dE : Nat × Nat} {A : Ad} {r1 r2 NF : Nat} {X : Cx} {G : Nat → Int32} {k4 : Nat} {S : Sto} {μ : Mp} {fa ta : Nat → Nat} {nf nt u v : Nat} {own : Nat → Nat} {Lf : List Nat} {Wk : Nat → Nat} {M : gMem} {w : Vw} {σ : mSt} (self : SimC cs lim dE A r1 r2 NF X G k4 S μ fa ta nf nt u v own Lf Wk M w σ) : w.2.1 A.st 2 = nI u := self.2.1
theorem SimC.uN {cs : Nat → ClassId} {lim dE : Nat × Nat} {A : Ad} {r1 r2 NF : Nat} {X : Cx} {G : Nat → Int32} {k4 : Nat} {S : Sto} {μ : Mp} {fa ta : Nat → Nat} {nf nt u v : Nat} {own : Nat → Nat} {Lf : List Nat} {Wk : Nat → Nat} {M : gMem} {w : Vw} {σ : mSt} (self : SimC cs lim dE A r1 r2 NF X G k4 S μ fa ta nf nt u v own Lf Wk M w σ) : u < 110000 := self.2.2.1
theorem SimC.sv {cs : Nat → ClassId} {lim dE : Nat × Nat} {A : Ad} {r1 r2 NF : Nat} {X : Cx} {G : Nat → Int32} {k4 : Nat} {S : Sto} {μ : Mp} {fa ta : Nat → Nat} {nf nt u v : Nat} {own : Nat → Nat} {Lf : List Nat} {Wk : Nat → Nat} {M : gMem} {w : Vw} {σ : mSt} (self : SimC cs lim dE A r1 r2 NF X G k4 S μ fa ta nf nt u v own Lf Wk M w σ) : w.2.1 A.st 3 = nI v := self.2.2.2.1
theorem SimC.v1 {cs : Nat → ClassId} {lim dE : Nat × Nat} {A : Ad} {r1 r2 NF : Nat} {X : Cx} {G : Nat → Int32} {k4 : Nat} {S : Sto} {μ : Mp} {fa ta : Nat → Nat} {nf nt u v : Nat} {own : Nat → Nat} {Lf : List Nat} {Wk : Nat → Nat} {M : gMem} {w : Vw} {σ : mSt} (self : SimC cs lim dE A r1 r2 NF X G k4 S μ fa ta nf nt u v own Lf Wk M w σ) : v ≤ 1000 ∧ v ≤ nt := self.2.2.2.2.1
theorem SimC.lf {cs : Nat → ClassId} {lim dE : Nat × Nat} {A : Ad} {r1 r2 NF : Nat} {X : Cx} {G : Nat → Int32} {k4 : Nat} {S : Sto} {μ : Mp} {fa ta : Nat → Nat} {nf nt u v : Nat} {own : Nat → Nat} {Lf : List Nat} {Wk : Nat → Nat} {M : gMem} {w : Vw} {σ : mSt} (self : SimC cs lim dE A r1 r2 NF X G k4 S μ fa ta nf nt u v own Lf Wk M w σ) : Lnk w (w.2.2 A.st 4) Lf ∧ Lf.Nodup ∧ ∀ c, c ∈ Lf → own c = 2 := self.2.2.2.2.2.1
theorem SimC.ou {cs : Nat → ClassId} {lim dE : Nat × Nat} {A : Ad} {r1 r2 NF : Nat} {X : Cx} {G : Nat → Int32} {k4 : Nat} {S : Sto} {μ : Mp} {fa ta : Nat → Nat} {nf nt u v : Nat} {own : Nat → Nat} {Lf : List Nat} {Wk : Nat → Nat} {M : gMem} {w : Vw} {σ : mSt} (self : SimC cs lim dE A r1 r2 NF X G k4 S μ fa ta nf nt u v own Lf Wk M w σ) : ∀ c, own c ≠ 0 → ∃ i, i < u ∧ fa i = c := self.2.2.2.2.2.2.1
theorem SimC.th {cs : Nat → ClassId} {lim dE : Nat × Nat} {A : Ad} {r1 r2 NF : Nat} {X : Cx} {G : Nat → Int32} {k4 : Nat} {S : Sto} {μ : Mp} {fa ta : Nat → Nat} {nf nt u v : Nat} {own : Nat → Nat} {Lf : List Nat} {Wk : Nat → Nat} {M : gMem} {w : Vw} {σ : mSt} (self : SimC cs lim dE A r1 r2 NF X G k4 S μ fa ta nf nt u v own Lf Wk M w σ) : w.2.1 A.ma 7 = σ.1 48 ∧ 0 ≤ (σ.1 48).toInt ∧ (σ.1 48).toInt ≤ 1000 := self.2.2.2.2.2.2.2.1
theorem SimC.dp {cs : Nat → ClassId} {lim dE : Nat × Nat} {A : Ad} {r1 r2 NF : Nat} {X : Cx} {G : Nat → Int32} {k4 : Nat} {S : Sto} {μ : Mp} {fa ta : Nat → Nat} {nf nt u v : Nat} {own : Nat → Nat} {Lf : List Nat} {Wk : Nat → Nat} {M : gMem} {w : Vw} {σ : mSt} (self : SimC cs lim dE A r1 r2 NF X G k4 S μ fa ta nf nt u v own Lf Wk M w σ) : w.2.1 A.ma 8 = σ.1 49 ∧ 0 ≤ (σ.1 49).toInt ∧ (σ.1 49).toInt ≤ 400 := self.2.2.2.2.2.2.2.2.1
theorem SimC.fu {cs : Nat → ClassId} {lim dE : Nat × Nat} {A : Ad} {r1 r2 NF : Nat} {X : Cx} {G : Nat → Int32} {k4 : Nat} {S : Sto} {μ : Mp} {fa ta : Nat → Nat} {nf nt u v : Nat} {own : Nat → Nat} {Lf : List Nat} {Wk : Nat → Nat} {M : gMem} {w : Vw} {σ : mSt} (self : SimC cs lim dE A r1 r2 NF X G k4 S μ fa ta nf nt u v own Lf Wk M w σ) : w.2.1 A.ma 6 = σ.1 47 := self.2.2.2.2.2.2.2.2.2.1
theorem SimC.un {cs : Nat → ClassId} {lim dE : Nat × Nat} {A : Ad} {r1 r2 NF : Nat} {X : Cx} {G : Nat → Int32} {k4 : Nat} {S : Sto} {μ : Mp} {fa ta : Nat → Nat} {nf nt u v : Nat} {own : Nat → Nat} {Lf : List Nat} {Wk : Nat → Nat} {M : gMem} {w : Vw} {σ : mSt} (self : SimC cs lim dE A r1 r2 NF X G k4 S μ fa ta nf nt u v own Lf Wk M w σ) : w.2.1 A.ma 9 = -1 := self.2.2.2.2.2.2.2.2.2.2.1
theorem SimC.va {cs : Nat → ClassId} {lim dE : Nat × Nat} {A : Ad} {r1 r2 NF : Nat} {X : Cx} {G : Nat → Int32} {k4 : Nat} {S : Sto} {μ : Mp} {fa ta : Nat → Nat} {nf nt u v : Nat} {own : Nat → Nat} {Lf : List Nat} {Wk : Nat → Nat} {M : gMem} {w : Vw} {σ : mSt} (self : SimC cs lim dE A r1 r2 NF X G k4 S μ fa ta nf nt u v own Lf Wk M w σ) : w.2.1 A.ma 5 = 0 := self.2.2.2.2.2.2.2.2.2.2.2.1
theorem SimC.nf {cs : Nat → ClassId} {lim dE : Nat × Nat} {A : Ad} {r1 r2 NF : Nat} {X : Cx} {G : Nat → Int32} {k4 : Nat} {S : Sto} {μ : Mp} {fa ta : Nat → Nat} {nf nt u v : Nat} {own : Nat → Nat} {Lf : List Nat} {Wk : Nat → Nat} {M : gMem} {w : Vw} {σ : mSt} (self : SimC cs lim dE A r1 r2 NF X G k4 S μ fa ta nf nt u v own Lf Wk M w σ) : (σ.1 56).toInt = S.nf := self.2.2.2.2.2.2.2.2.2.2.2.2.1
theorem SimC.nk {cs : Nat → ClassId} {lim dE : Nat × Nat} {A : Ad} {r1 r2 NF : Nat} {X : Cx} {G : Nat → Int32} {k4 : Nat} {S : Sto} {μ : Mp} {fa ta : Nat → Nat} {nf nt u v : Nat} {own : Nat → Nat} {Lf : List Nat} {Wk : Nat → Nat} {M : gMem} {w : Vw} {σ : mSt} (self : SimC cs lim dE A r1 r2 NF X G k4 S μ fa ta nf nt u v own Lf Wk M w σ) : (σ.1 61).toInt = S.nk := self.2.2.2.2.2.2.2.2.2.2.2.2.2.1
theorem SimC.ar {cs : Nat → ClassId} {lim dE : Nat × Nat} {A : Ad} {r1 r2 NF : Nat} {X : Cx} {G : Nat → Int32} {k4 : Nat} {S : Sto} {μ : Mp} {fa ta : Nat → Nat} {nf nt u v : Nat} {own : Nat → Nat} {Lf : List Nat} {Wk : Nat → Nat} {M : gMem} {w : Vw} {σ : mSt} (self : SimC cs lim dE A r1 r2 NF X G k4 S μ fa ta nf nt u v own Lf Wk M w σ) : Arr X σ := self.2.2.2.2.2.2.2.2.2.2.2.2.2.2.1
theorem SimC.fn {cs : Nat → ClassId} {lim dE : Nat × Nat} {A : Ad} {r1 r2 NF : Nat} {X : Cx} {G : Nat → Int32} {k4 : Nat} {S : Sto} {μ : Mp} {fa ta : Nat → Nat} {nf nt u v : Nat} {own : Nat → Nat} {Lf : List Nat} {Wk : Nat → Nat} {M : gMem} {w : Vw} {σ : mSt} (self : SimC cs lim dE A r1 r2 NF X G k4 S μ fa ta nf nt u v own Lf Wk M w σ) : ∀ f, f < S.nf → FnR X G S μ w ta v (σ.2.2.1 54 f) (seen (σ.2.2.2 55) (10 * f)) f := self.2.2.2.2.2.2.2.2.2.2.2.2.2.2.2.1
theorem SimC.kn {cs : Nat → ClassId} {lim dE : Nat × Nat} {A : Ad} {r1 r2 NF : Nat} {X : Cx} {G : Nat → Int32} {k4 : Nat} {S : Sto} {μ : Mp} {fa ta : Nat → Nat} {nf nt u v : Nat} {own : Nat → Nat} {Lf : List Nat} {Wk : Nat → Nat} {M : gMem} {w : Vw} {σ : mSt} (self : SimC cs lim dE A r1 r2 NF X G k4 S μ fa ta nf nt u v own Lf Wk M w σ) : ∀ k, k < S.nk → KnR X G S μ w ta v own σ Wk k := self.2.2.2.2.2.2.2.2.2.2.2.2.2.2.2.2.1
theorem SimC.ki {cs : Nat → ClassId} {lim dE : Nat × Nat} {A : Ad} {r1 r2 NF : Nat} {X : Cx} {G : Nat → Int32} {k4 : Nat} {S : Sto} {μ : Mp} {fa ta : Nat → Nat} {nf nt u v : Nat} {own : Nat → Nat} {Lf : List Nat} {Wk : Nat → Nat} {M : gMem} {w : Vw} {σ : mSt} (self : SimC cs lim dE A r1 r2 NF X G k4 S μ fa ta nf nt u v own Lf Wk M w σ) : ∀ k k', k < S.nk → k' < S.nk → μ.2 k = μ.2 k' → k = k' := self.2.2.2.2.2.2.2.2.2.2.2.2.2.2.2.2.2.1
theorem SimC.hw {cs : Nat → ClassId} {lim dE : Nat × Nat} {A : Ad} {r1 r2 NF : Nat} {X : Cx} {G : Nat → Int32} {k4 : Nat} {S : Sto} {μ : Mp} {fa ta : Nat → Nat} {nf nt u v : Nat} {own : Nat → Nat} {Lf : List Nat} {Wk : Nat → Nat} {M : gMem} {w : Vw} {σ : mSt} (self : SimC cs lim dE A r1 r2 NF X G k4 S μ fa ta nf nt u v own Lf Wk M w σ) : (sumW Wk S.nk : Int) ≤ 1701 * (σ.1 48).toInt := self.2.2.2.2.2.2.2.2.2.2.2.2.2.2.2.2.2.2.1
theorem SimC.vt {cs : Nat → ClassId} {lim dE : Nat × Nat} {A : Ad} {r1 r2 NF : Nat} {X : Cx} {G : Nat → Int32} {k4 : Nat} {S : Sto} {μ : Mp} {fa ta : Nat → Nat} {nf nt u v : Nat} {own : Nat → Nat} {Lf : List Nat} {Wk : Nat → Nat} {M : gMem} {w : Vw} {σ : mSt} (self : SimC cs lim dE A r1 r2 NF X G k4 S μ fa ta nf nt u v own Lf Wk M w σ) : (v : Int) ≤ (σ.1 48).toInt := self.2.2.2.2.2.2.2.2.2.2.2.2.2.2.2.2.2.2.2.1
theorem SimC.sn {cs : Nat → ClassId} {lim dE : Nat × Nat} {A : Ad} {r1 r2 NF : Nat} {X : Cx} {G : Nat → Int32} {k4 : Nat} {S : Sto} {μ : Mp} {fa ta : Nat → Nat} {nf nt u v : Nat} {own : Nat → Nat} {Lf : List Nat} {Wk : Nat → Nat} {M : gMem} {w : Vw} {σ : mSt} (self : SimC cs lim dE A r1 r2 NF X G k4 S μ fa ta nf nt u v own Lf Wk M w σ) : (S.nf : Int) + S.nk ≤ (σ.1 48).toInt := self.2.2.2.2.2.2.2.2.2.2.2.2.2.2.2.2.2.2.2.2.1
theorem SimC.uf {cs : Nat → ClassId} {lim dE : Nat × Nat} {A : Ad} {r1 r2 NF : Nat} {X : Cx} {G : Nat → Int32} {k4 : Nat} {S : Sto} {μ : Mp} {fa ta : Nat → Nat} {nf nt u v : Nat} {own : Nat → Nat} {Lf : List Nat} {Wk : Nat → Nat} {M : gMem} {w : Vw} {σ : mSt} (self : SimC cs lim dE A r1 r2 NF X G k4 S μ fa ta nf nt u v own Lf Wk M w σ) : (u : Int) ≤ 1 + (σ.1 48).toInt + (σ.1 47).toInt ∧ 0 ≤ (σ.1 47).toInt := self.2.2.2.2.2.2.2.2.2.2.2.2.2.2.2.2.2.2.2.2.2
/-- the frames, the one on top known by its place -/
def Tp (X : Cx) (G : Nat → Int32) (S : Sto) (μ : Mp) (w : Vw) (Tv : Nat → Prop) (A : Ad) (own : Nat → Nat) (σ : mSt) (mk : Fr) (ut F a : Nat) (L : List Nat) (Fs : List Fr) (b : Fr) (rest : List Fr) (u1 W1 : Nat) : Prop := ((σ.1 44).toInt = F) ∧ (F ≤ 16440) ∧ (Lnk w (w.2.2 A.ma 10) (a :: L)) ∧ ((a :: L).Nodup) ∧ (∀ c, c ∈ a :: L → own c = 1) ∧ ((L.length : Int) = (σ.1 49).toInt) ∧ (rfs σ F ++ [mk] = Fs ++ b :: rest) ∧ (Bs X G S μ w Tv L rest u1 ut W1)
theorem Tp.f44 {X : Cx} {G : Nat → Int32} {S : Sto} {μ : Mp} {w : Vw} {Tv : Nat → Prop} {A : Ad} {own : Nat → Nat} {σ : mSt} {mk : Fr} {ut F a : Nat} {L : List Nat} {Fs : List Fr} {b : Fr} {rest : List Fr} {u1 W1 : Nat} (self : Tp X G S μ w Tv A own σ mk ut F a L Fs b rest u1 W1) : (σ.1 44).toInt = F := self.1
theorem Tp.hF {X : Cx} {G : Nat → Int32} {S : Sto} {μ : Mp} {w : Vw} {Tv : Nat → Prop} {A : Ad} {own : Nat → Nat} {σ : mSt} {mk : Fr} {ut F a : Nat} {L : List Nat} {Fs : List Fr} {b : Fr} {rest : List Fr} {u1 W1 : Nat} (self : Tp X G S μ w Tv A own σ mk ut F a L Fs b rest u1 W1) : F ≤ 16440 := self.2.1
theorem Tp.lnk {X : Cx} {G : Nat → Int32} {S : Sto} {μ : Mp} {w : Vw} {Tv : Nat → Prop} {A : Ad} {own : Nat → Nat} {σ : mSt} {mk : Fr} {ut F a : Nat} {L : List Nat} {Fs : List Fr} {b : Fr} {rest : List Fr} {u1 W1 : Nat} (self : Tp X G S μ w Tv A own σ mk ut F a L Fs b rest u1 W1) : Lnk w (w.2.2 A.ma 10) (a :: L) := self.2.2.1
theorem Tp.nd {X : Cx} {G : Nat → Int32} {S : Sto} {μ : Mp} {w : Vw} {Tv : Nat → Prop} {A : Ad} {own : Nat → Nat} {σ : mSt} {mk : Fr} {ut F a : Nat} {L : List Nat} {Fs : List Fr} {b : Fr} {rest : List Fr} {u1 W1 : Nat} (self : Tp X G S μ w Tv A own σ mk ut F a L Fs b rest u1 W1) : (a :: L).Nodup := self.2.2.2.1
theorem Tp.ow {X : Cx} {G : Nat → Int32} {S : Sto} {μ : Mp} {w : Vw} {Tv : Nat → Prop} {A : Ad} {own : Nat → Nat} {σ : mSt} {mk : Fr} {ut F a : Nat} {L : List Nat} {Fs : List Fr} {b : Fr} {rest : List Fr} {u1 W1 : Nat} (self : Tp X G S μ w Tv A own σ mk ut F a L Fs b rest u1 W1) : ∀ c, c ∈ a :: L → own c = 1 := self.2.2.2.2.1
theorem Tp.len {X : Cx} {G : Nat → Int32} {S : Sto} {μ : Mp} {w : Vw} {Tv : Nat → Prop} {A : Ad} {own : Nat → Nat} {σ : mSt} {mk : Fr} {ut F a : Nat} {L : List Nat} {Fs : List Fr} {b : Fr} {rest : List Fr} {u1 W1 : Nat} (self : Tp X G S μ w Tv A own σ mk ut F a L Fs b rest u1 W1) : (L.length : Int) = (σ.1 49).toInt := self.2.2.2.2.2.1
theorem Tp.rf {X : Cx} {G : Nat → Int32} {S : Sto} {μ : Mp} {w : Vw} {Tv : Nat → Prop} {A : Ad} {own : Nat → Nat} {σ : mSt} {mk : Fr} {ut F a : Nat} {L : List Nat} {Fs : List Fr} {b : Fr} {rest : List Fr} {u1 W1 : Nat} (self : Tp X G S μ w Tv A own σ mk ut F a L Fs b rest u1 W1) : rfs σ F ++ [mk] = Fs ++ b :: rest := self.2.2.2.2.2.2.1
theorem Tp.bs {X : Cx} {G : Nat → Int32} {S : Sto} {μ : Mp} {w : Vw} {Tv : Nat → Prop} {A : Ad} {own : Nat → Nat} {σ : mSt} {mk : Fr} {ut F a : Nat} {L : List Nat} {Fs : List Fr} {b : Fr} {rest : List Fr} {u1 W1 : Nat} (self : Tp X G S μ w Tv A own σ mk ut F a L Fs b rest u1 W1) : Bs X G S μ w Tv L rest u1 ut W1 := self.2.2.2.2.2.2.2
/-- the frame on top works a node -/
def TNow (X : Cx) (G : Nat → Int32) (S : Sto) (μ : Mp) (w : Vw) (Tv : Nat → Prop) (σ : mSt) (a : Nat) (s : Nat → Int32) (h r : Nat) (Fs : List Fr) (b : Fr) (t u1 : Nat) : Prop := σ.1 51 = 0 ∧ ∃ (n r' c : Nat) (g : Nat → Int), (σ.1 45).toInt = n ∧ Gd X n ∧ DpOk X n h ∧ 10 ≤ h ∧ FSt w a s h r ∧ Cd X.A G c n r r' ∧ Ty X.A X.P X.tk X.gv g n t ∧ SR X.P S μ g s (nsee σ) ∧ Bk X G S μ w Tv a r' s h Fs b t u1
/-- the frame on top holds a value -/
def TGot (X : Cx) (G : Nat → Int32) (S : Sto) (μ : Mp) (w : Vw) (Tv : Nat → Prop) (σ : mSt) (a : Nat) (s : Nat → Int32) (h r : Nat) (Fs : List Fr) (b : Fr) (t u1 : Nat) : Prop := σ.1 51 ≠ 0 ∧ FSt w a s (h + 1) r ∧ VR X.P S μ t (s h) σ.2.1 ∧ Bk X G S μ w Tv a r s h Fs b t u1
def SimT (X : Cx) (G : Nat → Int32) (S : Sto) (μ : Mp) (w : Vw) (Tv : Nat → Prop) (A : Ad) (own : Nat → Nat) (σ : mSt) (mk : Fr) (ut W : Nat) : Prop :=
  ∃ (F a : Nat) (L : List Nat) (s : Nat → Int32) (h r : Nat) (Fs : List Fr) (b : Fr) (rest : List Fr) (t u1 W1 : Nat), Tp X G S μ w Tv A own σ mk ut F a L Fs b rest u1 W1 ∧ W + r = W1 + 1701 ∧ (TNow X G S μ w Tv σ a s h r Fs b t u1 ∨ TGot X G S μ w Tv σ a s h r Fs b t u1)
section
variable {X : Cx} {G : Nat → Int32} {S S' : Sto} {μ μ' : Mp} {w w' : Vw} {Tv Tv' : Nat → Prop} {A : Ad} {own own' : Nat → Nat} {σ σ' : mSt} {mk : Fr} {ut F F' a : Nat} {L : List Nat} {Fs Fs' : List Fr} {b : Fr} {rest : List Fr} {u1 W1 : Nat}
theorem Tp.next (h : Tp X G S μ w Tv A own σ mk ut F a L Fs b rest u1 W1) (hS : S.le S') (hm : MpLe S μ μ') (hl : ∀ c, c ∈ L → Same w w' c) (ht : ∀ z, Tv z → SameT w w' z ∧ Tv' z) (ha : w'.2.2 a 4 = w.2.2 a 4) (h10 : w'.2.2 A.ma 10 = w.2.2 A.ma 10) (ho : ∀ c, c ∈ a :: L → own' c = 1) (f44 : (σ'.1 44).toInt = F') (hF : F' ≤ 16440) (f49 : σ'.1 49 = σ.1 49) (rf : rfs σ' F' ++ [mk] = Fs' ++ b :: rest) : Tp X G S' μ' w' Tv' A own' σ' mk ut F' a L Fs' b rest u1 W1 := by
  refine ⟨f44, hF, ?_, h.nd, ho, by rw [f49]; exact h.len, rf, h.bs.mono hS hm hl ht⟩
  rw [h10]
  refine h.lnk.cong (fun c hc => ?_)
  rcases List.mem_cons.mp hc with rfl | hc
  · exact ha
  · exact (hl c hc).2.2 4
end
end
