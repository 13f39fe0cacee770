-- pure rows: CX CY CZ DA
section
/-! pure rows: the checking, kind by kind -/
section
variable {A : Nat → Nat → Int32} {tk gv : Nat → Nat} {τ : TT} {g : Nat → Int} {n : Nat}
theorem rest_ends {k s ct t t' : Nat} {cr e e' : Int32} {τ' : TT} (h : stg A tk gv τ g n s ct cr t e = .ends t' e' τ') : rest A tk gv (ev A tk gv) g n (k + 1) τ s ct cr t e = some (t', e', τ') := by
  rw [rest_s, h]; rfl
theorem rest_bad {k s ct t : Nat} {cr e : Int32} (h : stg A tk gv τ g n s ct cr t e = .bad) : rest A tk gv (ev A tk gv) g n (k + 1) τ s ct cr t e = none := by
  rw [rest_s, h]; rfl
theorem rest_into {k s ct t m ct' : Nat} {cr e cr' : Int32} {g' : Nat → Int} {τ' : TT} (h : stg A tk gv τ g n s ct cr t e = .into m g' ct' cr' τ') (hm : m < n) : rest A tk gv (ev A tk gv) g n (k + 1) τ s ct cr t e = ((ev A tk gv) τ' g' m).bind fun r => rest A tk gv (ev A tk gv) g n k r.2.2 (s + 1) ct' cr' r.1 r.2.1 := by
  rw [rest_s, h]
  show (if m < n then _ else _) = _
  rw [if_pos hm]
theorem ev_0 (hk : (A 5 n).toInt = 0) : (ev A tk gv) τ g n = some (0, 0, τ) := by
  rw [ev_eq]
  exact rest_ends (k := 49) (by (unfold stg; simp (config := { decide := true }) only [hk, if_true, if_false]) <;> rfl)
theorem ev_1 (hk : (A 5 n).toInt = 1) : (ev A tk gv) τ g n = some (1, 0, τ) := by
  rw [ev_eq]
  exact rest_ends (k := 49) (by (unfold stg; simp (config := { decide := true }) only [hk, if_true, if_false]) <;> rfl)
theorem ev_2 (hk : (A 5 n).toInt = 2) : (ev A tk gv) τ g n = some (2, 0, τ) := by
  rw [ev_eq]
  exact rest_ends (k := 49) (by (unfold stg; simp (config := { decide := true }) only [hk, if_true, if_false]) <;> rfl)
theorem ev_3 (hk : (A 5 n).toInt = 3) : (ev A tk gv) τ g n = if g (A 6 n).toInt.toNat = -1 then none else some ((g (A 6 n).toInt.toNat).toNat, 0, τ) := by
  rw [ev_eq]
  by_cases h : g (A 6 n).toInt.toNat = -1
  · rw [if_pos h]; exact rest_bad (k := 49) (by (unfold stg; simp (config := { decide := true }) only [hk, if_true, if_false]); rw [if_pos h] <;> rfl)
  · rw [if_neg h]; exact rest_ends (k := 49) (by (unfold stg; simp (config := { decide := true }) only [hk, if_true, if_false]); rw [if_neg h] <;> rfl)
theorem ev_4 (hk : (A 5 n).toInt = 4) (ha : (A 9 n).toInt.toNat < n) (hb : (A 10 n).toInt.toNat < n) : (ev A tk gv) τ g n = ((ev A tk gv) τ g (A 9 n).toInt.toNat).bind fun r => ((ev A tk gv) r.2.2 (env g (A 6 n).toInt.toNat r.1) (A 10 n).toInt.toNat).bind fun q => some (q.1, r.2.1 ||| q.2.1, q.2.2) := by
  rw [ev_eq, rest_into (k := 49) (by (unfold stg; simp (config := { decide := true }) only [hk, if_true, if_false]) <;> rfl) ha]
  congr 1; funext r
  rw [rest_into (k := 48) (by (unfold stg; simp (config := { decide := true }) only [hk, if_true, if_false]) <;> rfl) hb]
  congr 1; funext q
  exact rest_ends (k := 47) (by (unfold stg; simp (config := { decide := true }) only [hk, if_true, if_false]) <;> rfl)
theorem ev_5 (hk : (A 5 n).toInt = 5) (ha : (A 9 n).toInt.toNat < n) (hb : (A 10 n).toInt.toNat < n) : (ev A tk gv) τ g n = ((ev A tk gv) τ (env (env g (A 6 n).toInt.toNat (A 8 n).toInt.toNat) (A 7 n).toInt.toNat (tA τ (A 8 n).toInt.toNat)) (A 9 n).toInt.toNat).bind fun r => if suit r.2.2 r.1 (tR r.2.2 (A 8 n).toInt.toNat) ∧ Within r.2.1 (tW r.2.2 (A 8 n).toInt.toNat) then (ev A tk gv) r.2.2 (env g (A 6 n).toInt.toNat (A 8 n).toInt.toNat) (A 10 n).toInt.toNat else none := by
  rw [ev_eq, rest_into (k := 49) (by (unfold stg; simp (config := { decide := true }) only [hk, if_true, if_false]) <;> rfl) ha]
  congr 1; funext r
  by_cases h : suit r.2.2 r.1 (tR r.2.2 (A 8 n).toInt.toNat) ∧ Within r.2.1 (tW r.2.2 (A 8 n).toInt.toNat)
  · rw [if_pos h, rest_into (k := 48) (m := (A 10 n).toInt.toNat) (g' := env g (A 6 n).toInt.toNat (A 8 n).toInt.toNat) (ct' := 0) (cr' := 0) (τ' := r.2.2) (by (unfold stg; simp (config := { decide := true }) only [hk, if_true, if_false]); rw [if_pos h] <;> rfl) hb]
    have : ∀ q : Nat × Int32 × TT, rest A tk gv (ev A tk gv) g n 48 q.2.2 (0 + 1 + 1) 0 0 q.1 q.2.1 = some q := fun q => rest_ends (k := 47) (by (unfold stg; simp (config := { decide := true }) only [hk, if_true, if_false]) <;> rfl)
    simp only [this]
    cases (ev A tk gv) r.2.2 (env g (A 6 n).toInt.toNat (A 8 n).toInt.toNat) (A 10 n).toInt.toNat <;> rfl
  · rw [if_neg h]
    exact rest_bad (k := 48) (by (unfold stg; simp (config := { decide := true }) only [hk, if_true, if_false]); rw [if_neg h] <;> rfl)
theorem ev_6 (hk : (A 5 n).toInt = 6) (ha : (A 9 n).toInt.toNat < n) (hb : (A 10 n).toInt.toNat < n) (hc : (A 11 n).toInt.toNat < n) : (ev A tk gv) τ g n = ((ev A tk gv) τ g (A 9 n).toInt.toNat).bind fun r => if r.1 = 1 then ((ev A tk gv) r.2.2 g (A 10 n).toInt.toNat).bind fun q => ((ev A tk gv) q.2.2 g (A 11 n).toInt.toNat).bind fun p => if p.1 = q.1 then some (q.1, r.2.1 ||| q.2.1 ||| p.2.1, p.2.2) else none else none := by
  rw [ev_eq, rest_into (k := 49) (by (unfold stg; simp (config := { decide := true }) only [hk, if_true, if_false]) <;> rfl) ha]
  congr 1; funext r
  by_cases h : r.1 = 1
  · rw [if_pos h, rest_into (k := 48) (by (unfold stg; simp (config := { decide := true }) only [hk, if_true, if_false]); rw [if_pos h] <;> rfl) hb]
    congr 1; funext q
    rw [rest_into (k := 47) (by (unfold stg; simp (config := { decide := true }) only [hk, if_true, if_false]) <;> rfl) hc]
    congr 1; funext p
    by_cases h2 : p.1 = q.1
    · rw [if_pos h2]; exact rest_ends (k := 46) (by (unfold stg; simp (config := { decide := true }) only [hk, if_true, if_false]); rw [if_pos h2] <;> rfl)
    · rw [if_neg h2]; exact rest_bad (k := 46) (by (unfold stg; simp (config := { decide := true }) only [hk, if_true, if_false]); rw [if_neg h2] <;> rfl)
  · rw [if_neg h]; exact rest_bad (k := 48) (by (unfold stg; simp (config := { decide := true }) only [hk, if_true, if_false]); rw [if_neg h] <;> rfl)
theorem ev_7 (hk : (A 5 n).toInt = 7) (ha : (A 9 n).toInt.toNat < n) : (ev A tk gv) τ g n = ((ev A tk gv) τ (env g (A 6 n).toInt.toNat (A 7 n).toInt) (A 9 n).toInt.toNat).bind fun r => some ((number r.2.2 ((A 7 n).toInt.toNat, r.1, r.2.1)).1, 0, (number r.2.2 ((A 7 n).toInt.toNat, r.1, r.2.1)).2) := by
  rw [ev_eq, rest_into (k := 49) (by (unfold stg; simp (config := { decide := true }) only [hk, if_true, if_false]) <;> rfl) ha]
  congr 1; funext r
  exact rest_ends (k := 48) (by (unfold stg; simp (config := { decide := true }) only [hk, if_true, if_false]) <;> rfl)
theorem ev_9 (hk : (A 5 n).toInt = 9) (ha : (A 9 n).toInt.toNat < n) (hb : (A 10 n).toInt.toNat < n) : (ev A tk gv) τ g n = ((ev A tk gv) τ g (A 9 n).toInt.toNat).bind fun r => ((ev A tk gv) r.2.2 g (A 10 n).toInt.toNat).bind fun q => if r.1 = 0 ∧ q.1 = 0 then some (if (A 6 n).toInt < 3 then 0 else 1, r.2.1 ||| q.2.1, q.2.2) else none := by
  rw [ev_eq, rest_into (k := 49) (by (unfold stg; simp (config := { decide := true }) only [hk, if_true, if_false]) <;> rfl) ha]
  congr 1; funext r
  rw [rest_into (k := 48) (by (unfold stg; simp (config := { decide := true }) only [hk, if_true, if_false]) <;> rfl) hb]
  congr 1; funext q
  by_cases h : r.1 = 0 ∧ q.1 = 0
  · rw [if_pos h]; exact rest_ends (k := 47) (by (unfold stg; simp (config := { decide := true }) only [hk, if_true, if_false]); rw [if_pos h] <;> rfl)
  · rw [if_neg h]; exact rest_bad (k := 47) (by (unfold stg; simp (config := { decide := true }) only [hk, if_true, if_false]); rw [if_neg h] <;> rfl)
theorem ev_10 (hk : (A 5 n).toInt = 10) (ha : (A 9 n).toInt.toNat < n) (hb : (A 10 n).toInt.toNat < n) : (ev A tk gv) τ g n = ((ev A tk gv) τ g (A 9 n).toInt.toNat).bind fun r => if 3 ≤ r.1 then ((ev A tk gv) r.2.2 g (A 10 n).toInt.toNat).bind fun q => if suit q.2.2 q.1 (tA q.2.2 r.1) then some (tR q.2.2 r.1, r.2.1 ||| q.2.1 ||| tW q.2.2 r.1, q.2.2) else none else none := by
  rw [ev_eq, rest_into (k := 49) (by (unfold stg; simp (config := { decide := true }) only [hk, if_true, if_false]) <;> rfl) ha]
  congr 1; funext r
  by_cases h : 3 ≤ r.1
  · rw [if_pos h, rest_into (k := 48) (by (unfold stg; simp (config := { decide := true }) only [hk, if_true, if_false]); rw [if_pos h] <;> rfl) hb]
    congr 1; funext q
    by_cases h2 : suit q.2.2 q.1 (tA q.2.2 r.1)
    · rw [if_pos h2]; exact rest_ends (k := 47) (by (unfold stg; simp (config := { decide := true }) only [hk, if_true, if_false]); rw [if_pos h2] <;> rfl)
    · rw [if_neg h2]; exact rest_bad (k := 47) (by (unfold stg; simp (config := { decide := true }) only [hk, if_true, if_false]); rw [if_neg h2] <;> rfl)
  · rw [if_neg h]; exact rest_bad (k := 48) (by (unfold stg; simp (config := { decide := true }) only [hk, if_true, if_false]); rw [if_neg h] <;> rfl)
theorem ev_11 (hk : (A 5 n).toInt = 11) (ha : (A 9 n).toInt.toNat < n) : (ev A tk gv) τ g n = ((ev A tk gv) τ g (A 9 n).toInt.toNat).bind fun r => if suit r.2.2 r.1 (tk (A 6 n).toInt.toNat) then some (gv (A 6 n).toInt.toNat, r.2.1 ||| (1 <<< (A 6 n &&& 31)), r.2.2) else none := by
  rw [ev_eq, rest_into (k := 49) (by (unfold stg; simp (config := { decide := true }) only [hk, if_true, if_false]) <;> rfl) ha]
  congr 1; funext r
  by_cases h2 : suit r.2.2 r.1 (tk (A 6 n).toInt.toNat)
  · rw [if_pos h2]; exact rest_ends (k := 48) (by (unfold stg; simp (config := { decide := true }) only [hk, if_true, if_false]); rw [if_pos h2] <;> rfl)
  · rw [if_neg h2]; exact rest_bad (k := 48) (by (unfold stg; simp (config := { decide := true }) only [hk, if_true, if_false]); rw [if_neg h2] <;> rfl)
/-- a handle's clauses from number j on -/
noncomputable def evC (A : Nat → Nat → Int32) (tk gv : Nat → Nat) (g : Nat → Int) (n : Nat) (ct : Nat) (cr : Int32) (k : Nat) (j : Nat) (τ : TT) : Res := ofAct A tk gv g n k (j + 2) (clauses A tk gv τ g n j ct cr)
theorem ev_8 (hk : (A 5 n).toInt = 8) (ha : (A 9 n).toInt.toNat < n) (hb : (A 10 n).toInt.toNat < n) : (ev A tk gv) τ g n = ((ev A tk gv) τ g (A 9 n).toInt.toNat).bind fun r => ((ev A tk gv) r.2.2 (env g (A 6 n).toInt.toNat r.1) (A 10 n).toInt.toNat).bind fun q => if Within q.2.1 (A 7 n) then evC A tk gv g n q.1 r.2.1 47 0 q.2.2 else none := by
  rw [ev_eq, rest_into (k := 49) (by (unfold stg; simp (config := { decide := true }) only [hk, if_true, if_false]) <;> rfl) ha]
  congr 1; funext r
  rw [rest_into (k := 48) (by (unfold stg; simp (config := { decide := true }) only [hk, if_true, if_false]) <;> rfl) hb]
  congr 1; funext q
  by_cases h : Within q.2.1 (A 7 n)
  · rw [if_pos h, show (48 : Nat) = 47 + 1 from rfl, rest_s]
    have : stg A tk gv q.2.2 g n (0 + 1 + 1) 0 r.2.1 q.1 q.2.1 = clauses A tk gv q.2.2 g n 0 q.1 r.2.1 := by (unfold stg; simp (config := { decide := true }) only [hk, if_true, if_false]); rw [if_pos h]
    rw [this]; rfl
  · rw [if_neg h]; exact rest_bad (k := 47) (by (unfold stg; simp (config := { decide := true }) only [hk, if_true, if_false]); rw [if_neg h] <;> rfl)
theorem rest_8 (hk : (A 5 n).toInt = 8) {j k t ct : Nat} {e cr : Int32} : rest A tk gv (ev A tk gv) g n (k + 1) τ (j + 3) ct cr t e = if suit τ t ct ∧ Within e (A 7 n) then evC A tk gv g n ct cr k (j + 1) τ else none := by
  by_cases h : suit τ t ct ∧ Within e (A 7 n)
  · rw [if_pos h, rest_s]
    have : stg A tk gv τ g n (j + 3) ct cr t e = clauses A tk gv τ g n (j + 1) ct cr := by
      (unfold stg; simp (config := { decide := true }) only [hk, if_true, if_false])
      rw [if_neg (by omega), if_neg (by omega), if_neg (by omega), if_pos h]
      rfl
    rw [this]; rfl
  · rw [if_neg h]
    refine rest_bad (k := k) ?_
    (unfold stg; simp (config := { decide := true }) only [hk, if_true, if_false])
    rw [if_neg (by omega), if_neg (by omega), if_neg (by omega), if_neg h]
end
end
section
/-! pure rows, the class: the checker at a node -/
def valOf (A : Nat → Nat → Int32) (i : Nat) : Int32 := if (A 5 i).toInt = 0 ∨ (A 5 i).toInt = 1 ∨ (A 5 i).toInt = 3 ∨ (A 5 i).toInt = 9 ∨ (A 5 i).toInt = 11 then A 6 i else if (A 5 i).toInt = 5 then A 8 i else if (A 5 i).toInt = 7 ∨ (A 5 i).toInt = 8 then A 7 i else 0
def nameOf (A : Nat → Nat → Int32) (i : Nat) : Int32 := if (A 5 i).toInt = 4 ∨ (A 5 i).toInt = 7 ∨ (A 5 i).toInt = 8 then A 6 i else if (A 5 i).toInt = 5 then A 7 i else -1
def ownOf (A : Nat → Nat → Int32) (i : Nat) : Int32 := if (A 5 i).toInt = 5 then A 6 i else -1
def fromOf (A : Nat → Nat → Int32) (i : Nat) : Int32 := if (A 5 i).toInt = 8 then A 14 i else 0
def toOf (A : Nat → Nat → Int32) (i : Nat) : Int32 := if (A 5 i).toInt = 8 then A 14 i + A 15 i else 0
/-- a class's node out of the reference's tables -/
def ndOf (A : Nat → Nat → Int32) (i k : Nat) : Int32 := match k with
  | 0 => A 5 i
  | 1 => valOf A i
  | 2 => nameOf A i
  | 3 => ownOf A i
  | 4 => A 9 i
  | 5 => A 10 i
  | 6 => A 11 i
  | 7 => fromOf A i
  | 8 => toOf A i
  | 9 => A 12 i
  | _ => A 13 i
def cdOf (A : Nat → Nat → Int32) (j k : Nat) : Int32 := A (16 + k) j
/-- what is known of the reference's state -/
def Ctx (σ : mSt) (N C R T : Nat) : Prop := (NOk σ N C R T) ∧ (EOk σ T) ∧ (∀ i, i < N → (σ.2.2.1 5 i).toInt = 8 → Byte (σ.2.2.1 7 i))
theorem Ctx.nok {σ : mSt} {N C R T : Nat} (self : Ctx σ N C R T) : NOk σ N C R T := self.1
theorem Ctx.eok {σ : mSt} {N C R T : Nat} (self : Ctx σ N C R T) : EOk σ T := self.2.1
theorem Ctx.hrow {σ : mSt} {N C R T : Nat} (self : Ctx σ N C R T) : ∀ i, i < N → (σ.2.2.1 5 i).toInt = 8 → Byte (σ.2.2.1 7 i) := self.2.2
def Cks (cs : Nat → ClassId) (lim : Nat × Nat) (A : Ad) (σ : mSt) (N C F T : Nat) (g4 : Nat → Int32) (k4 : Nat) (M : gMem) (τ : TT) (K : Nat) : Prop := (Lay cs A M) ∧ (NsIs A M N C F (ndOf σ.2.2.1) (cdOf σ.2.2.1)) ∧ (EfIs A M (σ.2.2.1 24) (σ.2.2.1 25)) ∧ (TyA cs A M τ K) ∧ (Rm lim M K) ∧ (∀ x ∈ τ, Byte x.2.2) ∧ (CeIs cs M A.c4 g4 k4) ∧ (T ≤ 3 + τ.length)
theorem Cks.lay {cs : Nat → ClassId} {lim : Nat × Nat} {A : Ad} {σ : mSt} {N C F T : Nat} {g4 : Nat → Int32} {k4 : Nat} {M : gMem} {τ : TT} {K : Nat} (self : Cks cs lim A σ N C F T g4 k4 M τ K) : Lay cs A M := self.1
theorem Cks.ns {cs : Nat → ClassId} {lim : Nat × Nat} {A : Ad} {σ : mSt} {N C F T : Nat} {g4 : Nat → Int32} {k4 : Nat} {M : gMem} {τ : TT} {K : Nat} (self : Cks cs lim A σ N C F T g4 k4 M τ K) : NsIs A M N C F (ndOf σ.2.2.1) (cdOf σ.2.2.1) := self.2.1
theorem Cks.ef {cs : Nat → ClassId} {lim : Nat × Nat} {A : Ad} {σ : mSt} {N C F T : Nat} {g4 : Nat → Int32} {k4 : Nat} {M : gMem} {τ : TT} {K : Nat} (self : Cks cs lim A σ N C F T g4 k4 M τ K) : EfIs A M (σ.2.2.1 24) (σ.2.2.1 25) := self.2.2.1
theorem Cks.ty {cs : Nat → ClassId} {lim : Nat × Nat} {A : Ad} {σ : mSt} {N C F T : Nat} {g4 : Nat → Int32} {k4 : Nat} {M : gMem} {τ : TT} {K : Nat} (self : Cks cs lim A σ N C F T g4 k4 M τ K) : TyA cs A M τ K := self.2.2.2.1
theorem Cks.rm {cs : Nat → ClassId} {lim : Nat × Nat} {A : Ad} {σ : mSt} {N C F T : Nat} {g4 : Nat → Int32} {k4 : Nat} {M : gMem} {τ : TT} {K : Nat} (self : Cks cs lim A σ N C F T g4 k4 M τ K) : Rm lim M K := self.2.2.2.2.1
theorem Cks.rows {cs : Nat → ClassId} {lim : Nat × Nat} {A : Ad} {σ : mSt} {N C F T : Nat} {g4 : Nat → Int32} {k4 : Nat} {M : gMem} {τ : TT} {K : Nat} (self : Cks cs lim A σ N C F T g4 k4 M τ K) : ∀ x ∈ τ, Byte x.2.2 := self.2.2.2.2.2.1
theorem Cks.c4 {cs : Nat → ClassId} {lim : Nat × Nat} {A : Ad} {σ : mSt} {N C F T : Nat} {g4 : Nat → Int32} {k4 : Nat} {M : gMem} {τ : TT} {K : Nat} (self : Cks cs lim A σ N C F T g4 k4 M τ K) : CeIs cs M A.c4 g4 k4 := self.2.2.2.2.2.2.1
theorem Cks.tt {cs : Nat → ClassId} {lim : Nat × Nat} {A : Ad} {σ : mSt} {N C F T : Nat} {g4 : Nat → Int32} {k4 : Nat} {M : gMem} {τ : TT} {K : Nat} (self : Cks cs lim A σ N C F T g4 k4 M τ K) : T ≤ 3 + τ.length := self.2.2.2.2.2.2.2
def Sc (A : Ad) (M : gMem) (τ : TT) (g : Nat → Int) : Prop := ∀ x, x < 10 → (aF M A.sc x).toInt = g x ∧ -1 ≤ g x ∧ g x < 3 + τ.length
abbrev Wl : List (Nat × Nat) := [(1, 4), (2, 0), (6, 5), (6, 6)]
abbrev Vl : List (Nat × Nat) := [(2, 0), (6, 4)]
section
variable {cs : Nat → ClassId} {lim : Nat × Nat} {A : Ad} {σ : mSt} {N C R F T : Nat} {g4 : Nat → Int32} {k4 : Nat} {M : gMem} {τ : TT} {K : Nat} {g : Nat → Int}
theorem Cks.after {M' : gMem} {τ' : TT} {K' : Nat} (h : Cks cs lim A σ N C F T g4 k4 M τ K) (e : Ext Wl Vl true M M') (ty : TyA cs A M' τ' K') (rm : Rm lim M' K') (rows : ∀ x ∈ τ', Byte x.2.2) (c4 : CeIs cs M' A.c4 g4 k4) (tt : T ≤ 3 + τ'.length) : Cks cs lim A σ N C F T g4 k4 M' τ' K' :=
  ⟨h.lay.ext e (by decide), h.ns.ext h.lay e (by decide) (by decide) (by decide), h.ef.ext h.lay e (by decide), ty, rm, rows, c4, tt⟩
/-- a step that leaves the types alone -/
theorem Cks.light {W V : List (Nat × Nat)} {M' : gMem} (h : Cks cs lim A σ N C F T g4 k4 M τ K) (e : Ext W V false M M') (hW : W.all (fun w => ([(6, 5), (6, 6)] : List (Nat × Nat)).contains w) = true) (hV : V.all (fun w => ([(6, 4)] : List (Nat × Nat)).contains w) = true) : Cks cs lim A σ N C F T g4 k4 M' τ K ∧ Ext Wl Vl true M M' ∧ M'.2 = M.2 := by
  have e2 : Ext [(6, 5), (6, 6)] [(6, 4)] false M M' := e.mono hW hV (fun z => z)
  have hs := e2.sz.2.2 rfl
  have e3 : Ext Wl Vl true M M' := e2.mono (by decide) (by decide) (by decide)
  refine ⟨h.after e3 (h.ty.ext h.lay e2 (by decide) (by decide) (by decide)) ?_ h.rows (h.c4.ext e2 (by decide) (by decide)) h.tt, e3, hs⟩
  have := h.rm
  unfold Rm at this ⊢
  rw [hs]
  exact this
theorem ck_blame (h : Cks cs lim A σ N C F T g4 k4 M τ K) (x y : Int32) : S_Ck_blame cs lim M A.ck x y ∧ (F_Ck_blame cs M A.ck x y).1 = -1 ∧ Cks cs lim A σ N C F T g4 k4 (F_Ck_blame cs M A.ck x y).2 τ K ∧ Ext Wl Vl true M (F_Ck_blame cs M A.ck x y).2 ∧ (F_Ck_blame cs M A.ck x y).2.2 = M.2 := by
  have o := h.lay.ck_0.1
  have s : S_Ck_blame cs lim M A.ck x y := ⟨o, cOk_putI (by decide) o o, trivial⟩
  have e := x_Ck_blame cs lim M A.ck x y h.lay.mok s
  obtain ⟨a, b, c⟩ := h.light e (by decide) (by decide)
  exact ⟨s, rfl, a, b, c⟩
theorem ck_rename (h : Cks cs lim A σ N C F T g4 k4 M τ K) {x t : Int32} {i : Nat} (hx : x.toInt = i) (hi : i < 10) : S_Ck_rename cs lim M A.ck x t ∧ (F_Ck_rename cs M A.ck x t).1 = aF M A.sc i ∧ Cks cs lim A σ N C F T g4 k4 (F_Ck_rename cs M A.ck x t).2 τ K ∧ Ext Wl Vl true M (F_Ck_rename cs M A.ck x t).2 ∧ (F_Ck_rename cs M A.ck x t).2.2 = M.2 ∧ (∀ j, aF (F_Ck_rename cs M A.ck x t).2 A.sc j = if j = i then t else aF M A.sc j) := by
  have o := h.lay.ck_4
  have h1 : ¬ x < 0 := by ((try (simp only [vp_in, Int32.toNatClampNeg, Int32.lt_iff_toInt_lt, Int32.le_iff_toInt_le, ← Int32.toInt_inj, Int32.toInt_add, Int32.toInt_sub, Int32.toInt_mul, Int32.reduceToInt, i32_neg1, Nat.reducePow, Int.reducePow, ne_eq, ge_iff_le, gt_iff_lt] at *)) <;> (first | omega | ((simp (disch := omega) only [bm32] at *) <;> omega)))
  have h2 : x < 10 := by ((try (simp only [vp_in, Int32.toNatClampNeg, Int32.lt_iff_toInt_lt, Int32.le_iff_toInt_le, ← Int32.toInt_inj, Int32.toInt_add, Int32.toInt_sub, Int32.toInt_mul, Int32.reduceToInt, i32_neg1, Nat.reducePow, Int.reducePow, ne_eq, ge_iff_le, gt_iff_lt] at *)) <;> (first | omega | ((simp (disch := omega) only [bm32] at *) <;> omega)))
  have hc : x.toNatClampNeg = i := by ((try (simp only [vp_in, Int32.toNatClampNeg, Int32.lt_iff_toInt_lt, Int32.le_iff_toInt_le, ← Int32.toInt_inj, Int32.toInt_add, Int32.toInt_sub, Int32.toInt_mul, Int32.reduceToInt, i32_neg1, Nat.reducePow, Int.reducePow, ne_eq, ge_iff_le, gt_iff_lt] at *)) <;> (first | omega | ((simp (disch := omega) only [bm32] at *) <;> omega)))
  have s : S_Ck_rename cs lim M A.ck x t := by
    unfold S_Ck_rename
    rw [if_neg h1, if_pos h2]
    simp only [o.2, Option.getD_some]
    exact ⟨o.1, ⟨trivial, h.lay.sc.1⟩, by rw [h.lay.sc.2]; ((try (simp only [vp_in, Int32.toNatClampNeg, Int32.lt_iff_toInt_lt, Int32.le_iff_toInt_le, ← Int32.toInt_inj, Int32.toInt_add, Int32.toInt_sub, Int32.toInt_mul, Int32.reduceToInt, i32_neg1, Nat.reducePow, Int.reducePow, ne_eq, ge_iff_le, gt_iff_lt] at *)) <;> (first | omega | ((simp (disch := omega) only [bm32] at *) <;> omega))), o.1, ⟨trivial, h.lay.sc.1⟩, by rw [h.lay.sc.2]; ((try (simp only [vp_in, Int32.toNatClampNeg, Int32.lt_iff_toInt_lt, Int32.le_iff_toInt_le, ← Int32.toInt_inj, Int32.toInt_add, Int32.toInt_sub, Int32.toInt_mul, Int32.reduceToInt, i32_neg1, Nat.reducePow, Int.reducePow, ne_eq, ge_iff_le, gt_iff_lt] at *)) <;> (first | omega | ((simp (disch := omega) only [bm32] at *) <;> omega))), trivial⟩
  have e := x_Ck_rename cs lim M A.ck x t h.lay.mok s
  obtain ⟨a, b, c⟩ := h.light e (by decide) (by decide)
  have hF : F_Ck_rename cs M A.ck x t = (aF M A.sc i, aPi (cs 0) M A.sc i t) := by
    unfold F_Ck_rename
    rw [if_neg h1, if_pos h2, o.2, hc]
    rfl
  refine ⟨s, by rw [hF], a, b, c, fun j => ?_⟩
  rw [hF]
  have : (aPi (cs 0) M A.sc i t).1 A.sc = some (1, .inl (cs 0, aL M A.sc, .inl (upd (aF M A.sc) i t))) := by unfold aPi; exact gup_s
  rw [(aI_of this).2, upd_at]
theorem Sc.xenv {M' : gMem} {τ' : TT} {t : Int32} {i : Nat} (h : Sc A M τ g) (hj : ∀ j, aF M' A.sc j = if j = i then t else aF M A.sc j) (hl : τ.length ≤ τ'.length) (ht : -1 ≤ t.toInt ∧ t.toInt < 3 + τ'.length) : Sc A M' τ' (env g i t.toInt) := fun x hx => by
  rw [hj x]
  unfold env
  by_cases q : x = i
  · rw [if_pos q, if_pos q]; exact ⟨rfl, ht⟩
  · rw [if_neg q, if_neg q]
    have := h x hx
    exact ⟨this.1, this.2.1, by omega⟩
theorem env_back {g : Nat → Int} {i : Nat} {t : Int} : env (env g i t) i (g i) = g := by
  funext y
  unfold env
  by_cases q : y = i
  · rw [if_pos q, q]
  · rw [if_neg q, if_neg q]
/-- what looking at node m comes to -/
def LOk (cs : Nat → ClassId) (lim : Nat × Nat) (A : Ad) (σ : mSt) (N C F T : Nat) (g4 : Nat → Int32) (k4 : Nat) (M : gMem) (τ : TT) (g : Nat → Int) (K m : Nat) (w : Int32 × gMem) : Prop :=
  Ext Wl Vl true M w.2 ∧ ((∃ t e τ' K', ev σ.2.2.1 (tks σ) (gvs σ) τ g m = some (t, e, τ') ∧ w.1.toInt = t * 256 + e.toInt ∧ Byte e ∧ t < 3 + τ'.length ∧ Cks cs lim A σ N C F T g4 k4 w.2 τ' K' ∧ Pot M w.2 K K' ∧ Sc A w.2 τ' g ∧ (τ'.length : Int) + 1 ≤ τ.length + Sz σ m ∧ τ <+: τ') ∨
    (ev σ.2.2.1 (tks σ) (gvs σ) τ g m = none ∧ w.1 = -1 ∧ ∃ τ' K', Cks cs lim A σ N C F T g4 k4 w.2 τ' K' ∧ Pot M w.2 K K' ∧ τ <+: τ'))
/-- the parts are looked at rightly -/
def HL (cs : Nat → ClassId) (lim : Nat × Nat) (A : Ad) (σ : mSt) (N C F T : Nat) (g4 : Nat → Int32) (k4 : Nat) (Lf : gMem → Nat → Int32 → Int32 → Int32 × gMem) (Ls : gMem → Nat → Int32 → Int32 → Prop) (d : Nat) : Prop :=
  ∀ (M : gMem) (τ : TT) (g : Nat → Int) (K m : Nat) (x lv : Int32), m < N → x.toInt = m → Dp σ m ≤ d → 1 ≤ lv.toInt → lv.toInt + Dp σ m ≤ 41 → (τ.length : Int) + Sz σ m ≤ 500 → Cks cs lim A σ N C F T g4 k4 M τ K → Sc A M τ g → Ls M A.ck x lv ∧ LOk cs lim A σ N C F T g4 k4 M τ g K m (Lf M A.ck x lv)
theorem Pot.light {M' : gMem} (h : M'.2 = M.2) : Pot M M' K K := by
  unfold Pot
  rw [h]
  exact ⟨Nat.le_refl _, Nat.le_refl _, Nat.le_refl _⟩
end
end
section
/-! pure rows, the class: let, two, if, call, perform -/
section
variable {cs : Nat → ClassId} {lim : Nat × Nat} {A : Ad} {σ : mSt} {N C R F T : Nat} {g4 : Nat → Int32} {k4 : Nat} {M : gMem} {τ : TT} {K : Nat} {g : Nat → Int}
theorem LOk.split {m : Nat} {w : Int32 × gMem} (h : (LOk cs lim A σ N C F T g4 k4) M τ g K m w) : Ext Wl Vl true M w.2 ∧ ((¬ w.1 = -1 ∧ ∃ t e τ' K', (ev σ.2.2.1 (tks σ) (gvs σ)) τ g m = some (t, e, τ') ∧ (w.1 / 256).toInt = (t : Nat) ∧ w.1 &&& 255 = e ∧ Byte e ∧ t < 3 + τ'.length ∧ (Cks cs lim A σ N C F T g4 k4) w.2 τ' K' ∧ Pot M w.2 K K' ∧ Sc A w.2 τ' g ∧ (τ'.length : Int) + 1 ≤ τ.length + Sz σ m ∧ τ <+: τ') ∨
    (w.1 = -1 ∧ (ev σ.2.2.1 (tks σ) (gvs σ)) τ g m = none ∧ ∃ τ' K', (Cks cs lim A σ N C F T g4 k4) w.2 τ' K' ∧ Pot M w.2 K K' ∧ τ <+: τ')) := by
  obtain ⟨x, r⟩ := h
  refine ⟨x, ?_⟩
  rcases r with ⟨t, e, τ', K', q1, q2, q3, q4, q5, q6, q7, q8, q9⟩ | ⟨q1, q2, q3⟩
  · have hlen := q5.ty.len
    refine Or.inl ⟨?_, t, e, τ', K', q1, typeIn_seen q2 q3, effectsIn_seen (by omega) q2 q3, q3, q4, q5, q6, q7, q8, q9⟩
    unfold Byte at q3
    ((try (simp only [vp_in, Int32.toNatClampNeg, Int32.lt_iff_toInt_lt, Int32.le_iff_toInt_le, ← Int32.toInt_inj, Int32.toInt_add, Int32.toInt_sub, Int32.toInt_mul, Int32.reduceToInt, i32_neg1, Nat.reducePow, Int.reducePow, ne_eq, ge_iff_le, gt_iff_lt] at *)) <;> (first | omega | ((simp (disch := omega) only [bm32] at *) <;> omega)))
  · exact Or.inr ⟨q2, q1, q3⟩
theorem LOk.good {m t : Nat} {x e : Int32} {M' : gMem} {τ' : TT} {K' : Nat} (he : Ext Wl Vl true M M') (hx : x.toInt = t) (hb : Byte e) (ht : t < 3 + τ'.length) (hev : (ev σ.2.2.1 (tks σ) (gvs σ)) τ g m = some (t, e, τ')) (hc : (Cks cs lim A σ N C F T g4 k4) M' τ' K') (hp : Pot M M' K K') (hs : Sc A M' τ' g) (hl : (τ'.length : Int) + 1 ≤ τ.length + Sz σ m) (pre : τ <+: τ') : (LOk cs lim A σ N C F T g4 k4) M τ g K m (x * 256 + e, M') := by
  have hlen := hc.ty.len
  exact ⟨he, Or.inl ⟨t, e, τ', K', hev, seen_int hx (by omega) hb, hb, ht, hc, hp, hs, hl, pre⟩⟩
theorem LOk.fail {m : Nat} {M' : gMem} {τ' : TT} {K' : Nat} (he : Ext Wl Vl true M M') (hev : (ev σ.2.2.1 (tks σ) (gvs σ)) τ g m = none) (hc : (Cks cs lim A σ N C F T g4 k4) M' τ' K') (hp : Pot M M' K K') (pre : τ <+: τ') : (LOk cs lim A σ N C F T g4 k4) M τ g K m (-1, M') := ⟨he, Or.inr ⟨hev, rfl, τ', K', hc, hp, pre⟩⟩
/-- a part of node n -/
theorem part_of {σ : mSt} {n : Nat} {p : Int32} (h : Pt σ n p) (hne : p ≠ -1) : p.toInt = (p.toInt.toNat : Nat) ∧ p.toInt.toNat < n ∧ Dp σ p.toInt.toNat < Dp σ n := by
  rcases h with h | ⟨h1, h2, h3⟩
  · exact absurd h hne
  · exact ⟨by omega, by omega, h3⟩
theorem sz_of {σ : mSt} {p : Int32} (hne : p ≠ -1) : sz σ p = Sz σ p.toInt.toNat := by unfold sz; rw [if_neg hne]
theorem csz_nn {σ : mSt} {N C R T : Nat} (h : NOk σ N C R T) {n : Nat} (hn : n < N) (hk : (σ.2.2.1 5 n).toInt ≠ 8) : csz σ (σ.2.2.1 14 n).toInt.toNat (σ.2.2.1 15 n).toInt.toNat = 0 := by
  have := (h.nd n hn).cm.2 hk
  rw [this]
  rfl
variable {Lf : gMem → Nat → Int32 → Int32 → Int32 × gMem} {Ls : gMem → Nat → Int32 → Int32 → Prop} {d n a fu : Nat} {lv : Int32}
theorem ck_let (X : Ctx σ N C R T) (hL : HL cs lim A σ N C F T g4 k4 Lf Ls d) (hn : n < N) (hk : ((σ.2.2.1) 5 n).toInt = 4) (hd : Dp σ n ≤ d + 1) (hv : 1 ≤ lv.toInt) (hv2 : lv.toInt + Dp σ n ≤ 41) (hs : (τ.length : Int) + Sz σ n ≤ 500) (h : (Cks cs lim A σ N C F T g4 k4) M τ K) (sc : Sc A M τ g) (ha : NodeAt M a (ndOf (σ.2.2.1) n)) : S_Ck_lookLet cs lim fu Lf Ls M A.ck (some a) lv ∧ (LOk cs lim A σ N C F T g4 k4) M τ g K n (F_Ck_lookLet cs fu Lf M A.ck (some a) lv) := by
  have N0 := X.nok.nd n hn
  have nz := csz_nn X.nok hn (by omega)
  obtain ⟨pa1, pa2, pa3⟩ := part_of N0.pa (N0.ha (by show 4 ≤ ((σ.2.2.1) 5 n).toInt; omega))
  obtain ⟨pb1, pb2, pb3⟩ := part_of N0.pb (N0.hb (by show ((σ.2.2.1) 5 n).toInt = 4 ∨ ((σ.2.2.1) 5 n).toInt = 5 ∨ ((σ.2.2.1) 5 n).toInt = 6 ∨ ((σ.2.2.1) 5 n).toInt = 8 ∨ ((σ.2.2.1) 5 n).toInt = 9 ∨ ((σ.2.2.1) 5 n).toInt = 10; omega))
  have s2 := N0.s2 (by omega)
  rw [sz_of (N0.ha (by show 4 ≤ ((σ.2.2.1) 5 n).toInt; omega)), sz_of (N0.hb (by show ((σ.2.2.1) 5 n).toInt = 4 ∨ ((σ.2.2.1) 5 n).toInt = 5 ∨ ((σ.2.2.1) 5 n).toInt = 6 ∨ ((σ.2.2.1) 5 n).toInt = 8 ∨ ((σ.2.2.1) 5 n).toInt = 9 ∨ ((σ.2.2.1) 5 n).toInt = 10; omega))] at s2
  have szc : 0 ≤ sz σ ((σ.2.2.1) 11 n) := by unfold sz; split; exact Int.le_refl _; rcases N0.pc with q | ⟨q1, q2, q3⟩; contradiction; have := (X.nok.nd ((σ.2.2.1) 11 n).toInt.toNat (by omega)).s1; omega
  have dpn := N0.dp
  have nmv : nameOf (σ.2.2.1) n = (σ.2.2.1) 6 n := by unfold nameOf; rw [if_pos (by omega)]
  obtain ⟨nm1, nm2⟩ := N0.nm (by show ((σ.2.2.1) 5 n).toInt = 3 ∨ ((σ.2.2.1) 5 n).toInt = 4 ∨ ((σ.2.2.1) 5 n).toInt = 5 ∨ ((σ.2.2.1) 5 n).toInt = 7 ∨ ((σ.2.2.1) 5 n).toInt = 8; omega)
  have hev := ev_4 (A := (σ.2.2.1)) (tk := tks σ) (gv := gvs σ) (τ := τ) (g := g) hk pa2 pb2
  have dpa := (X.nok.nd _ (Nat.lt_trans pa2 hn)).dp
  have dpb := (X.nok.nd _ (Nat.lt_trans pb2 hn)).dp
  have sa := (X.nok.nd _ (Nat.lt_trans pa2 hn)).s1
  have sb := (X.nok.nd _ (Nat.lt_trans pb2 hn)).s1
  unfold S_Ck_lookLet F_Ck_lookLet
  simp only [Option.getD_some, mbind_eq]
  have e4 : cI M a 4 = (σ.2.2.1) 9 n := ha.2 4 (by decide)
  rw [e4]
  obtain ⟨s1, r1⟩ := hL M τ g K _ ((σ.2.2.1) 9 n) (lv + 1) (Nat.lt_trans pa2 hn) pa1 (by omega) (by ((try (simp only [vp_in, Int32.toNatClampNeg, Int32.lt_iff_toInt_lt, Int32.le_iff_toInt_le, ← Int32.toInt_inj, Int32.toInt_add, Int32.toInt_sub, Int32.toInt_mul, Int32.reduceToInt, i32_neg1, Nat.reducePow, Int.reducePow, ne_eq, ge_iff_le, gt_iff_lt] at *)) <;> (first | omega | ((simp (disch := omega) only [bm32] at *) <;> omega)))) (by ((try (simp only [vp_in, Int32.toNatClampNeg, Int32.lt_iff_toInt_lt, Int32.le_iff_toInt_le, ← Int32.toInt_inj, Int32.toInt_add, Int32.toInt_sub, Int32.toInt_mul, Int32.reduceToInt, i32_neg1, Nat.reducePow, Int.reducePow, ne_eq, ge_iff_le, gt_iff_lt] at *)) <;> (first | omega | ((simp (disch := omega) only [bm32] at *) <;> omega)))) (by omega) h sc
  generalize Lf M A.ck ((σ.2.2.1) 9 n) (lv + 1) = w1 at r1 ⊢
  obtain ⟨x1, r1⟩ := r1.split
  have ha1 := ha.ext x1 (by decide)
  rcases r1 with ⟨hw, t1, e1, τ1, K1, q1, q2, q3, q4, q5, q6, q7, q8, q9, q10⟩ | ⟨hw, q1, τ1, K1, q2, q3, q4⟩
  · simp only [if_neg hw]
    have e2 : cI w1.2 a 2 = (σ.2.2.1) 6 n := by rw [ha1.2 2 (by decide)]; exact nmv
    rw [e2]
    obtain ⟨s2', v2, c2, x2, z2, a2⟩ := ck_rename q6 (x := (σ.2.2.1) 6 n) (t := F_Ck_typeIn cs w1.2 w1.1) (i := ((σ.2.2.1) 6 n).toInt.toNat) (by omega) (by omega)
    have bt : (F_Ck_typeIn cs w1.2 w1.1).toInt = (t1 : Nat) := q2
    have sc2 := q8.xenv a2 (Nat.le_refl _) (by rw [bt]; omega)
    rw [bt] at sc2
    generalize F_Ck_rename cs w1.2 A.ck ((σ.2.2.1) 6 n) (F_Ck_typeIn cs w1.2 w1.1) = w2 at v2 c2 x2 z2 a2 sc2 ⊢
    have ha2 := ha1.ext x2 (by decide)
    have e5 : cI w2.2 a 5 = (σ.2.2.1) 10 n := ha2.2 5 (by decide)
    rw [e5]
    obtain ⟨s3, r3⟩ := hL w2.2 τ1 _ K1 _ ((σ.2.2.1) 10 n) (lv + 1) (Nat.lt_trans pb2 hn) pb1 (by omega) (by ((try (simp only [vp_in, Int32.toNatClampNeg, Int32.lt_iff_toInt_lt, Int32.le_iff_toInt_le, ← Int32.toInt_inj, Int32.toInt_add, Int32.toInt_sub, Int32.toInt_mul, Int32.reduceToInt, i32_neg1, Nat.reducePow, Int.reducePow, ne_eq, ge_iff_le, gt_iff_lt] at *)) <;> (first | omega | ((simp (disch := omega) only [bm32] at *) <;> omega)))) (by ((try (simp only [vp_in, Int32.toNatClampNeg, Int32.lt_iff_toInt_lt, Int32.le_iff_toInt_le, ← Int32.toInt_inj, Int32.toInt_add, Int32.toInt_sub, Int32.toInt_mul, Int32.reduceToInt, i32_neg1, Nat.reducePow, Int.reducePow, ne_eq, ge_iff_le, gt_iff_lt] at *)) <;> (first | omega | ((simp (disch := omega) only [bm32] at *) <;> omega)))) (by omega) c2 sc2
    generalize Lf w2.2 A.ck ((σ.2.2.1) 10 n) (lv + 1) = w3 at r3 ⊢
    obtain ⟨x3, r3⟩ := r3.split
    have ha3 := ha2.ext x3 (by decide)
    have e2' : cI w3.2 a 2 = (σ.2.2.1) 6 n := by rw [ha3.2 2 (by decide)]; exact nmv
    rw [e2']
    have X12 : Ext Wl Vl true M w2.2 := x1.trans h.lay.mok x2
    have X13 : Ext Wl Vl true M w3.2 := X12.trans h.lay.mok x3
    rcases r3 with ⟨hw3, t3, e3, τ3, K3, y1, y2, y3, y4, y5, y6, y7, y8, y9, y10⟩ | ⟨hw3, y1, τ3, K3, y2, y3, y4⟩
    · obtain ⟨s4, v4, c4, x4, z4, a4⟩ := ck_rename y6 (x := (σ.2.2.1) 6 n) (t := w2.1) (i := ((σ.2.2.1) 6 n).toInt.toNat) (by omega) (by omega)
      have g0 := q8 ((σ.2.2.1) 6 n).toInt.toNat (by omega)
      have hle : τ1.length ≤ τ3.length := y10.length_le
      generalize F_Ck_rename cs w3.2 A.ck ((σ.2.2.1) 6 n) w2.1 = w4 at v4 c4 x4 z4 a4 ⊢
      have sc4 := y8.xenv (τ' := τ3) a4 (Nat.le_refl _) (by rw [v2, g0.1]; omega)
      rw [v2, g0.1, env_back] at sc4
      simp only [if_neg hw3, F_Ck_seenAs, F_Ck_typeIn, F_Ck_effectsIn]
      refine ⟨⟨⟨a, rfl, ha.1⟩, h.lay.ck_0.1, s1, ⟨a, rfl, ha1.1⟩, trivial, q6.lay.ck_0.1, s2', ⟨a, rfl, ha2.1⟩, c2.lay.ck_0.1, s3, ⟨a, rfl, ha3.1⟩, y6.lay.ck_0.1, s4, trivial, trivial, trivial, trivial, trivial⟩, ?_⟩
      rw [q3, y3]
      exact LOk.good (X13.trans h.lay.mok x4) y2 (q4.or y4) y5 (by rw [hev, q1]; show Option.bind ((ev σ.2.2.1 (tks σ) (gvs σ)) τ1 _ _) _ = _; rw [y1]; rfl) c4 ((q7.trans (Pot.light z2)).trans (y7.trans (Pot.light z4))) sc4 (by omega) (q10.trans y10)
    · obtain ⟨s4, v4, c4, x4, z4, a4⟩ := ck_rename y2 (x := (σ.2.2.1) 6 n) (t := w2.1) (i := ((σ.2.2.1) 6 n).toInt.toNat) (by omega) (by omega)
      generalize F_Ck_rename cs w3.2 A.ck ((σ.2.2.1) 6 n) w2.1 = w4 at v4 c4 x4 z4 a4 ⊢
      simp only [if_pos hw3]
      refine ⟨⟨⟨a, rfl, ha.1⟩, h.lay.ck_0.1, s1, ⟨a, rfl, ha1.1⟩, trivial, q6.lay.ck_0.1, s2', ⟨a, rfl, ha2.1⟩, c2.lay.ck_0.1, s3, ⟨a, rfl, ha3.1⟩, y2.lay.ck_0.1, s4, trivial⟩, ?_⟩
      exact LOk.fail (X13.trans h.lay.mok x4) (by rw [hev, q1]; show Option.bind ((ev σ.2.2.1 (tks σ) (gvs σ)) τ1 _ _) _ = _; rw [y1]; rfl) c4 ((q7.trans (Pot.light z2)).trans (y3.trans (Pot.light z4))) (q10.trans y4)
  · simp only [if_pos hw]
    exact ⟨⟨⟨a, rfl, ha.1⟩, h.lay.ck_0.1, s1, trivial⟩, LOk.fail x1 (by rw [hev, q1]; rfl) q2 q3 q4⟩
theorem sz_nn {σ : mSt} {N C R T : Nat} (h : NOk σ N C R T) {n : Nat} (hn : n < N) {p : Int32} (hp : Pt σ n p) : 0 ≤ sz σ p := by
  unfold sz
  split
  · exact Int.le_refl _
  · rcases hp with q | ⟨q1, q2, q3⟩
    · contradiction
    · have := (h.nd p.toInt.toNat (by omega)).s1
      omega
theorem ck_two (X : Ctx σ N C R T) (hL : HL cs lim A σ N C F T g4 k4 Lf Ls d) (hn : n < N) (hk : ((σ.2.2.1) 5 n).toInt = 9) (hd : Dp σ n ≤ d + 1) (hv : 1 ≤ lv.toInt) (hv2 : lv.toInt + Dp σ n ≤ 41) (hs : (τ.length : Int) + Sz σ n ≤ 500) (h : (Cks cs lim A σ N C F T g4 k4) M τ K) (sc : Sc A M τ g) (ha : NodeAt M a (ndOf (σ.2.2.1) n)) : S_Ck_lookTwo cs lim fu Lf Ls M A.ck (some a) lv ∧ (LOk cs lim A σ N C F T g4 k4) M τ g K n (F_Ck_lookTwo cs fu Lf M A.ck (some a) lv) := by
  have N0 := X.nok.nd n hn
  have nz := csz_nn X.nok hn (by omega)
  obtain ⟨pa1, pa2, pa3⟩ := part_of N0.pa (N0.ha (by show 4 ≤ ((σ.2.2.1) 5 n).toInt; omega))
  obtain ⟨pb1, pb2, pb3⟩ := part_of N0.pb (N0.hb (by show ((σ.2.2.1) 5 n).toInt = 4 ∨ ((σ.2.2.1) 5 n).toInt = 5 ∨ ((σ.2.2.1) 5 n).toInt = 6 ∨ ((σ.2.2.1) 5 n).toInt = 8 ∨ ((σ.2.2.1) 5 n).toInt = 9 ∨ ((σ.2.2.1) 5 n).toInt = 10; omega))
  have s2 := N0.s2 (by omega)
  rw [sz_of (N0.ha (by show 4 ≤ ((σ.2.2.1) 5 n).toInt; omega)), sz_of (N0.hb (by show ((σ.2.2.1) 5 n).toInt = 4 ∨ ((σ.2.2.1) 5 n).toInt = 5 ∨ ((σ.2.2.1) 5 n).toInt = 6 ∨ ((σ.2.2.1) 5 n).toInt = 8 ∨ ((σ.2.2.1) 5 n).toInt = 9 ∨ ((σ.2.2.1) 5 n).toInt = 10; omega))] at s2
  have szb := sz_nn X.nok hn N0.pb
  have szc := sz_nn X.nok hn N0.pc
  have dpn := N0.dp
  have dpa := (X.nok.nd _ (Nat.lt_trans pa2 hn)).dp
  have sa := (X.nok.nd _ (Nat.lt_trans pa2 hn)).s1
  have dpb := (X.nok.nd _ (Nat.lt_trans pb2 hn)).dp
  have sb := (X.nok.nd _ (Nat.lt_trans pb2 hn)).s1
  have hev := ev_9 (A := (σ.2.2.1)) (tk := tks σ) (gv := gvs σ) (τ := τ) (g := g) hk pa2 pb2
  unfold S_Ck_lookTwo F_Ck_lookTwo
  simp only [Option.getD_some, mbind_eq]
  have f1 : cI M a 4 = (σ.2.2.1) 9 n := ha.2 4 (by decide)
  rw [f1]
  obtain ⟨s1, r1⟩ := hL M τ g K _ ((σ.2.2.1) 9 n) (lv + 1) (Nat.lt_trans pa2 hn) pa1 (by omega) (by ((try (simp only [vp_in, Int32.toNatClampNeg, Int32.lt_iff_toInt_lt, Int32.le_iff_toInt_le, ← Int32.toInt_inj, Int32.toInt_add, Int32.toInt_sub, Int32.toInt_mul, Int32.reduceToInt, i32_neg1, Nat.reducePow, Int.reducePow, ne_eq, ge_iff_le, gt_iff_lt] at *)) <;> (first | omega | ((simp (disch := omega) only [bm32] at *) <;> omega)))) (by ((try (simp only [vp_in, Int32.toNatClampNeg, Int32.lt_iff_toInt_lt, Int32.le_iff_toInt_le, ← Int32.toInt_inj, Int32.toInt_add, Int32.toInt_sub, Int32.toInt_mul, Int32.reduceToInt, i32_neg1, Nat.reducePow, Int.reducePow, ne_eq, ge_iff_le, gt_iff_lt] at *)) <;> (first | omega | ((simp (disch := omega) only [bm32] at *) <;> omega)))) (by omega) h sc
  generalize Lf M A.ck ((σ.2.2.1) 9 n) (lv + 1) = w1 at r1 ⊢
  obtain ⟨x1, r1⟩ := r1.split
  have ha1 := ha.ext x1 (by decide)
  have X1 := x1
  rcases r1 with ⟨hw1, t1, e1, τ1, K1, q1_1, q1_2, q1_3, q1_4, q1_5, q1_6, q1_7, q1_8, q1_9, q1_10⟩ | ⟨hw1, q1_1, τ1, K1, q1_2, q1_3, q1_4⟩
  · simp only [if_neg hw1]
    have f2 : cI w1.2 a 5 = (σ.2.2.1) 10 n := ha1.2 5 (by decide)
    rw [f2]
    obtain ⟨s2_, r2⟩ := hL w1.2 τ1 g K1 _ ((σ.2.2.1) 10 n) (lv + 1) (Nat.lt_trans pb2 hn) pb1 (by omega) (by ((try (simp only [vp_in, Int32.toNatClampNeg, Int32.lt_iff_toInt_lt, Int32.le_iff_toInt_le, ← Int32.toInt_inj, Int32.toInt_add, Int32.toInt_sub, Int32.toInt_mul, Int32.reduceToInt, i32_neg1, Nat.reducePow, Int.reducePow, ne_eq, ge_iff_le, gt_iff_lt] at *)) <;> (first | omega | ((simp (disch := omega) only [bm32] at *) <;> omega)))) (by ((try (simp only [vp_in, Int32.toNatClampNeg, Int32.lt_iff_toInt_lt, Int32.le_iff_toInt_le, ← Int32.toInt_inj, Int32.toInt_add, Int32.toInt_sub, Int32.toInt_mul, Int32.reduceToInt, i32_neg1, Nat.reducePow, Int.reducePow, ne_eq, ge_iff_le, gt_iff_lt] at *)) <;> (first | omega | ((simp (disch := omega) only [bm32] at *) <;> omega)))) (by omega) q1_6 q1_8
    generalize Lf w1.2 A.ck ((σ.2.2.1) 10 n) (lv + 1) = w2 at r2 ⊢
    obtain ⟨x2, r2⟩ := r2.split
    have ha2 := ha1.ext x2 (by decide)
    have X2 : Ext Wl Vl true M w2.2 := X1.trans h.lay.mok x2
    rcases r2 with ⟨hw2, t2, e2, τ2, K2, q2_1, q2_2, q2_3, q2_4, q2_5, q2_6, q2_7, q2_8, q2_9, q2_10⟩ | ⟨hw2, q2_1, τ2, K2, q2_2, q2_3, q2_4⟩
    · simp only [if_neg hw2]
      have hb1 : (F_Ck_typeIn cs w2.2 w1.1).toInt = (t1 : Nat) := q1_2
      have hb2 : (F_Ck_typeIn cs w2.2 w2.1).toInt = (t2 : Nat) := q2_2
      have fv : cI w2.2 a 1 = (σ.2.2.1) 6 n := by rw [ha2.2 1 (by decide)]; show valOf (σ.2.2.1) n = _; unfold valOf; rw [if_pos (by omega)]
      have bad : ∀ y : Int32, ((ev σ.2.2.1 (tks σ) (gvs σ)) τ g n = none) → (LOk cs lim A σ N C F T g4 k4) M τ g K n ((F_Ck_blame cs w2.2 A.ck 6 y).1, (F_Ck_blame cs w2.2 A.ck 6 y).2) := fun y hne => by
        obtain ⟨sb1, vb, cb, xb, zb⟩ := ck_blame q2_6 6 y
        rw [vb]
        exact LOk.fail (X2.trans h.lay.mok xb) hne cb (q1_7.trans (q2_7.trans (Pot.light zb))) (q1_10.trans q2_10)
      by_cases c1 : F_Ck_typeIn cs w2.2 w1.1 = 0
      · simp only [if_pos c1]
        have d1 : t1 = 0 := by rw [c1] at hb1; have : (0 : Int32).toInt = 0 := rfl; omega
        by_cases c2 : F_Ck_typeIn cs w2.2 w2.1 = 0
        · simp only [if_pos c2, fv]
          have d2 : t2 = 0 := by rw [c2] at hb2; have : (0 : Int32).toInt = 0 := rfl; omega
          have hev2 : (ev σ.2.2.1 (tks σ) (gvs σ)) τ g n = some (if ((σ.2.2.1) 6 n).toInt < 3 then 0 else 1, e1 ||| e2, τ2) := by
            rw [hev, q1_1]
            show Option.bind ((ev σ.2.2.1 (tks σ) (gvs σ)) τ1 _ _) _ = _
            rw [q2_1]
            show (if t1 = 0 ∧ t2 = 0 then _ else _) = _
            rw [if_pos ⟨d1, d2⟩]
          by_cases c3 : 2 < (σ.2.2.1) 6 n
          · simp only [if_pos c3, F_Ck_seenAs, F_Ck_effectsIn, q1_3, q2_3]
            refine ⟨⟨⟨a, rfl, ha.1⟩, h.lay.ck_0.1, s1, ⟨a, rfl, ha1.1⟩, q1_6.lay.ck_0.1, s2_, trivial, trivial, ⟨a, rfl, ha2.1⟩, trivial, trivial, trivial, trivial⟩, ?_⟩
            exact LOk.good (t := 1) X2 rfl (q1_4.or q2_4) (by omega) (by rw [hev2, if_neg (by clear hev hev2 hL X; ((try (simp only [vp_in, Int32.toNatClampNeg, Int32.lt_iff_toInt_lt, Int32.le_iff_toInt_le, ← Int32.toInt_inj, Int32.toInt_add, Int32.toInt_sub, Int32.toInt_mul, Int32.reduceToInt, i32_neg1, Nat.reducePow, Int.reducePow, ne_eq, ge_iff_le, gt_iff_lt] at *)) <;> (first | omega | ((simp (disch := omega) only [bm32] at *) <;> omega))))]) q2_6 (q1_7.trans q2_7) q2_8 (by omega) (q1_10.trans q2_10)
          · simp only [if_neg c3, F_Ck_seenAs, F_Ck_effectsIn, q1_3, q2_3]
            refine ⟨⟨⟨a, rfl, ha.1⟩, h.lay.ck_0.1, s1, ⟨a, rfl, ha1.1⟩, q1_6.lay.ck_0.1, s2_, trivial, trivial, ⟨a, rfl, ha2.1⟩, trivial, trivial, trivial, trivial⟩, ?_⟩
            exact LOk.good (t := 0) X2 rfl (q1_4.or q2_4) (by omega) (by rw [hev2, if_pos (by clear hev hev2 hL X; ((try (simp only [vp_in, Int32.toNatClampNeg, Int32.lt_iff_toInt_lt, Int32.le_iff_toInt_le, ← Int32.toInt_inj, Int32.toInt_add, Int32.toInt_sub, Int32.toInt_mul, Int32.reduceToInt, i32_neg1, Nat.reducePow, Int.reducePow, ne_eq, ge_iff_le, gt_iff_lt] at *)) <;> (first | omega | ((simp (disch := omega) only [bm32] at *) <;> omega))))]) q2_6 (q1_7.trans q2_7) q2_8 (by omega) (q1_10.trans q2_10)
        · simp only [if_neg c2]
          refine ⟨⟨⟨a, rfl, ha.1⟩, h.lay.ck_0.1, s1, ⟨a, rfl, ha1.1⟩, q1_6.lay.ck_0.1, s2_, trivial, trivial, ⟨a, rfl, ha2.1⟩, q2_6.lay.ck_0.1, (ck_blame q2_6 6 _).1, trivial⟩, bad _ ?_⟩
          rw [hev, q1_1]
          show Option.bind ((ev σ.2.2.1 (tks σ) (gvs σ)) τ1 _ _) _ = _
          rw [q2_1]
          show (if t1 = 0 ∧ t2 = 0 then _ else _) = _
          rw [if_neg (fun z => c2 (by have := z.2; have : (0 : Int32).toInt = 0 := rfl; ((try (simp only [vp_in, Int32.toNatClampNeg, Int32.lt_iff_toInt_lt, Int32.le_iff_toInt_le, ← Int32.toInt_inj, Int32.toInt_add, Int32.toInt_sub, Int32.toInt_mul, Int32.reduceToInt, i32_neg1, Nat.reducePow, Int.reducePow, ne_eq, ge_iff_le, gt_iff_lt] at *)) <;> (first | omega | ((simp (disch := omega) only [bm32] at *) <;> omega)))))]
      · simp only [if_neg c1]
        refine ⟨⟨⟨a, rfl, ha.1⟩, h.lay.ck_0.1, s1, ⟨a, rfl, ha1.1⟩, q1_6.lay.ck_0.1, s2_, trivial, ⟨a, rfl, ha2.1⟩, q2_6.lay.ck_0.1, (ck_blame q2_6 6 _).1, trivial⟩, bad _ ?_⟩
        rw [hev, q1_1]
        show Option.bind ((ev σ.2.2.1 (tks σ) (gvs σ)) τ1 _ _) _ = _
        rw [q2_1]
        show (if t1 = 0 ∧ t2 = 0 then _ else _) = _
        rw [if_neg (fun z => c1 (by have := z.1; have : (0 : Int32).toInt = 0 := rfl; ((try (simp only [vp_in, Int32.toNatClampNeg, Int32.lt_iff_toInt_lt, Int32.le_iff_toInt_le, ← Int32.toInt_inj, Int32.toInt_add, Int32.toInt_sub, Int32.toInt_mul, Int32.reduceToInt, i32_neg1, Nat.reducePow, Int.reducePow, ne_eq, ge_iff_le, gt_iff_lt] at *)) <;> (first | omega | ((simp (disch := omega) only [bm32] at *) <;> omega)))))]
    · simp only [if_pos hw2]
      exact ⟨⟨⟨a, rfl, ha.1⟩, h.lay.ck_0.1, s1, ⟨a, rfl, ha1.1⟩, q1_6.lay.ck_0.1, s2_, trivial⟩, LOk.fail X2 (by rw [hev, q1_1]; show Option.bind ((ev σ.2.2.1 (tks σ) (gvs σ)) τ1 _ _) _ = _; rw [q2_1]; rfl) q2_2 (q1_7.trans q2_3) (q1_10.trans q2_4)⟩
  · simp only [if_pos hw1]
    simp only [if_pos]
    exact ⟨⟨⟨a, rfl, ha.1⟩, h.lay.ck_0.1, s1, trivial⟩, LOk.fail X1 (by rw [hev, q1_1]; rfl) q1_2 q1_3 q1_4⟩
end
end
section
/-! pure rows, the class: call, perform (written by gen_da.py) -/
section
variable {cs : Nat → ClassId} {lim : Nat × Nat} {A : Ad} {σ : mSt} {N C R F T : Nat} {g4 : Nat → Int32} {k4 : Nat} {M : gMem} {τ : TT} {K : Nat} {g : Nat → Int}
variable {Lf : gMem → Nat → Int32 → Int32 → Int32 × gMem} {Ls : gMem → Nat → Int32 → Int32 → Prop} {d n a fu : Nat} {lv : Int32}
theorem ck_call (X : Ctx σ N C R T) (hL : HL cs lim A σ N C F T g4 k4 Lf Ls d) (hn : n < N) (hk : ((σ.2.2.1) 5 n).toInt = 10) (hd : Dp σ n ≤ d + 1) (hv : 1 ≤ lv.toInt) (hv2 : lv.toInt + Dp σ n ≤ 41) (hs : (τ.length : Int) + Sz σ n ≤ 500) (h : (Cks cs lim A σ N C F T g4 k4) M τ K) (sc : Sc A M τ g) (ha : NodeAt M a (ndOf (σ.2.2.1) n)) : S_Ck_lookCall cs lim fu Lf Ls M A.ck (some a) lv ∧ (LOk cs lim A σ N C F T g4 k4) M τ g K n (F_Ck_lookCall cs fu Lf M A.ck (some a) lv) := by
  have N0 := X.nok.nd n hn
  have nz := csz_nn X.nok hn (by omega)
  obtain ⟨pa1, pa2, pa3⟩ := part_of N0.pa (N0.ha (by show 4 ≤ ((σ.2.2.1) 5 n).toInt; omega))
  obtain ⟨pb1, pb2, pb3⟩ := part_of N0.pb (N0.hb (by show ((σ.2.2.1) 5 n).toInt = 4 ∨ ((σ.2.2.1) 5 n).toInt = 5 ∨ ((σ.2.2.1) 5 n).toInt = 6 ∨ ((σ.2.2.1) 5 n).toInt = 8 ∨ ((σ.2.2.1) 5 n).toInt = 9 ∨ ((σ.2.2.1) 5 n).toInt = 10; omega))
  have s2 := N0.s2 (by omega)
  rw [sz_of (N0.ha (by show 4 ≤ ((σ.2.2.1) 5 n).toInt; omega)), sz_of (N0.hb (by show ((σ.2.2.1) 5 n).toInt = 4 ∨ ((σ.2.2.1) 5 n).toInt = 5 ∨ ((σ.2.2.1) 5 n).toInt = 6 ∨ ((σ.2.2.1) 5 n).toInt = 8 ∨ ((σ.2.2.1) 5 n).toInt = 9 ∨ ((σ.2.2.1) 5 n).toInt = 10; omega))] at s2
  have szb := sz_nn X.nok hn N0.pb
  have szc := sz_nn X.nok hn N0.pc
  have dpn := N0.dp
  have dpa := (X.nok.nd _ (Nat.lt_trans pa2 hn)).dp
  have sa := (X.nok.nd _ (Nat.lt_trans pa2 hn)).s1
  have dpb := (X.nok.nd _ (Nat.lt_trans pb2 hn)).dp
  have sb := (X.nok.nd _ (Nat.lt_trans pb2 hn)).s1
  have hev := ev_10 (A := (σ.2.2.1)) (tk := tks σ) (gv := gvs σ) (τ := τ) (g := g) hk pa2 pb2
  unfold S_Ck_lookCall F_Ck_lookCall
  simp only [Option.getD_some, mbind_eq]
  have f1 : cI M a 4 = (σ.2.2.1) 9 n := ha.2 4 (by decide)
  rw [f1]
  obtain ⟨s1, r1⟩ := hL M τ g K _ ((σ.2.2.1) 9 n) (lv + 1) (Nat.lt_trans pa2 hn) pa1 (by omega) (by ((try (simp only [vp_in, Int32.toNatClampNeg, Int32.lt_iff_toInt_lt, Int32.le_iff_toInt_le, ← Int32.toInt_inj, Int32.toInt_add, Int32.toInt_sub, Int32.toInt_mul, Int32.reduceToInt, i32_neg1, Nat.reducePow, Int.reducePow, ne_eq, ge_iff_le, gt_iff_lt] at *)) <;> (first | omega | ((simp (disch := omega) only [bm32] at *) <;> omega)))) (by ((try (simp only [vp_in, Int32.toNatClampNeg, Int32.lt_iff_toInt_lt, Int32.le_iff_toInt_le, ← Int32.toInt_inj, Int32.toInt_add, Int32.toInt_sub, Int32.toInt_mul, Int32.reduceToInt, i32_neg1, Nat.reducePow, Int.reducePow, ne_eq, ge_iff_le, gt_iff_lt] at *)) <;> (first | omega | ((simp (disch := omega) only [bm32] at *) <;> omega)))) (by omega) h sc
  generalize Lf M A.ck ((σ.2.2.1) 9 n) (lv + 1) = w1 at r1 ⊢
  obtain ⟨x1, r1⟩ := r1.split
  have ha1 := ha.ext x1 (by decide)
  have X1 := x1
  rcases r1 with ⟨hw1, t1, e1, τ1, K1, q1_1, q1_2, q1_3, q1_4, q1_5, q1_6, q1_7, q1_8, q1_9, q1_10⟩ | ⟨hw1, q1_1, τ1, K1, q1_2, q1_3, q1_4⟩
  · simp only [if_neg hw1, q1_6.lay.ck_1.2, Option.getD_some]
    have hb1 : (F_Ck_typeIn cs w1.2 w1.1).toInt = (t1 : Nat) := q1_2
    obtain ⟨si, vi⟩ := ty_isFunction (lim := lim) q1_6.lay q1_6.ty.cnt (F_Ck_typeIn cs w1.2 w1.1)
    rw [hb1] at vi
    have o1 : cOq 1 w1.2 (some A.ty) := ⟨_, rfl, q1_6.lay.ty_0.1⟩
    by_cases c1 : 3 ≤ t1
    · rw [if_pos (by omega)] at vi
      simp only [vi, if_neg (show ¬ (1 : Int32) = 0 by decide)]
      have f2 : cI w1.2 a 5 = (σ.2.2.1) 10 n := ha1.2 5 (by decide)
      rw [f2]
      obtain ⟨s2_, r2⟩ := hL w1.2 τ1 g K1 _ ((σ.2.2.1) 10 n) (lv + 1) (Nat.lt_trans pb2 hn) pb1 (by omega) (by ((try (simp only [vp_in, Int32.toNatClampNeg, Int32.lt_iff_toInt_lt, Int32.le_iff_toInt_le, ← Int32.toInt_inj, Int32.toInt_add, Int32.toInt_sub, Int32.toInt_mul, Int32.reduceToInt, i32_neg1, Nat.reducePow, Int.reducePow, ne_eq, ge_iff_le, gt_iff_lt] at *)) <;> (first | omega | ((simp (disch := omega) only [bm32] at *) <;> omega)))) (by ((try (simp only [vp_in, Int32.toNatClampNeg, Int32.lt_iff_toInt_lt, Int32.le_iff_toInt_le, ← Int32.toInt_inj, Int32.toInt_add, Int32.toInt_sub, Int32.toInt_mul, Int32.reduceToInt, i32_neg1, Nat.reducePow, Int.reducePow, ne_eq, ge_iff_le, gt_iff_lt] at *)) <;> (first | omega | ((simp (disch := omega) only [bm32] at *) <;> omega)))) (by omega) q1_6 q1_8
      generalize Lf w1.2 A.ck ((σ.2.2.1) 10 n) (lv + 1) = w2 at r2 ⊢
      obtain ⟨x2, r2⟩ := r2.split
      have ha2 := ha1.ext x2 (by decide)
      have X2 : Ext Wl Vl true M w2.2 := X1.trans h.lay.mok x2
      rcases r2 with ⟨hw2, t2, e2, τ2, K2, q2_1, q2_2, q2_3, q2_4, q2_5, q2_6, q2_7, q2_8, q2_9, q2_10⟩ | ⟨hw2, q2_1, τ2, K2, q2_2, q2_3, q2_4⟩
      · have hle : τ1.length ≤ τ2.length := q2_10.length_le
        have o2 : cOq 1 w2.2 (some A.ty) := ⟨_, rfl, q2_6.lay.ty_0.1⟩
        obtain ⟨⟨pa1', pa2'⟩, ⟨pr1, pr2⟩, pw1, pw2⟩ := q2_6.ty.parts (lim := lim) q2_6.lay hb1 c1 (by omega)
        have wt := q2_6.ty.wt t1 c1 (by omega)
        have hb2 : (F_Ck_typeIn cs w2.2 w2.1).toInt = (t2 : Nat) := q2_2
        obtain ⟨ss, vs⟩ := q2_6.ty.suits (lim := lim) q2_6.lay hb2 pa2' q2_5 (by omega)
        simp only [if_neg hw2, q2_6.lay.ck_1.2, Option.getD_some]
        rcases vs with ⟨ve, vq⟩ | ⟨ve, vq⟩
        · simp only [ve, if_neg (show ¬ (1 : Int32) = 0 by decide), pw2, F_Ck_seenAs, F_Ck_effectsIn, q1_3, q2_3]
          have bw : Byte (tW τ2 t1) := by
            have := tget c1 (show t1 < 3 + τ2.length by omega)
            exact q2_6.rows _ (List.mem_of_getElem? this)
          refine ⟨⟨⟨a, rfl, ha.1⟩, h.lay.ck_0.1, s1, trivial, q1_6.lay.ck_0.1, o1, si, ⟨a, rfl, ha1.1⟩, q1_6.lay.ck_0.1, s2_, q2_6.lay.ck_0.1, trivial, q2_6.lay.ck_0.1, o2, pa1', o2, ss, trivial, trivial, q2_6.lay.ck_0.1, o2, pw1, q2_6.lay.ck_0.1, o2, pr1, trivial, trivial⟩, ?_⟩
          refine LOk.good (t := tR τ2 t1) X2 pr2 ((q1_4.or q2_4).or bw) (by omega) ?_ q2_6 (q1_7.trans q2_7) q2_8 (by omega) (q1_10.trans q2_10)
          rw [hev, q1_1]
          show (if 3 ≤ t1 then _ else _) = _
          rw [if_pos c1]
          show Option.bind ((ev σ.2.2.1 (tks σ) (gvs σ)) τ1 _ _) _ = _
          rw [q2_1]
          simp only [Option.bind_some]
          rw [if_pos vq]
        · simp only [ve, if_pos]
          obtain ⟨sb1, vb, cb, xb, zb⟩ := ck_blame q2_6 6 (cI w2.2 a 5)
          rw [vb]
          refine ⟨⟨⟨a, rfl, ha.1⟩, h.lay.ck_0.1, s1, trivial, q1_6.lay.ck_0.1, o1, si, ⟨a, rfl, ha1.1⟩, q1_6.lay.ck_0.1, s2_, q2_6.lay.ck_0.1, trivial, q2_6.lay.ck_0.1, o2, pa1', o2, ss, ⟨a, rfl, ha2.1⟩, q2_6.lay.ck_0.1, sb1, trivial⟩, ?_⟩
          refine LOk.fail (X2.trans h.lay.mok xb) ?_ cb (q1_7.trans (q2_7.trans (Pot.light zb))) (q1_10.trans q2_10)
          rw [hev, q1_1]
          show (if 3 ≤ t1 then _ else _) = _
          rw [if_pos c1]
          show Option.bind ((ev σ.2.2.1 (tks σ) (gvs σ)) τ1 _ _) _ = _
          rw [q2_1]
          simp only [Option.bind_some]
          rw [if_neg vq]
      · simp only [if_pos hw2]
        refine ⟨⟨⟨a, rfl, ha.1⟩, h.lay.ck_0.1, s1, trivial, q1_6.lay.ck_0.1, o1, si, ⟨a, rfl, ha1.1⟩, q1_6.lay.ck_0.1, s2_, trivial⟩, LOk.fail X2 ?_ q2_2 (q1_7.trans q2_3) (q1_10.trans q2_4)⟩
        rw [hev, q1_1]
        show (if 3 ≤ t1 then _ else _) = _
        rw [if_pos c1]
        show Option.bind ((ev σ.2.2.1 (tks σ) (gvs σ)) τ1 _ _) _ = _
        rw [q2_1]
        rfl
    · rw [if_neg (by omega)] at vi
      simp only [vi, if_pos]
      obtain ⟨sb1, vb, cb, xb, zb⟩ := ck_blame q1_6 6 (cI w1.2 a 4)
      rw [vb]
      refine ⟨⟨⟨a, rfl, ha.1⟩, h.lay.ck_0.1, s1, trivial, q1_6.lay.ck_0.1, o1, si, ⟨a, rfl, ha1.1⟩, q1_6.lay.ck_0.1, sb1, trivial⟩, ?_⟩
      refine LOk.fail (X1.trans h.lay.mok xb) ?_ cb (q1_7.trans (Pot.light zb)) q1_10
      rw [hev, q1_1]
      show (if 3 ≤ t1 then _ else _) = _
      rw [if_neg c1]
  · simp only [if_pos hw1]
    exact ⟨⟨⟨a, rfl, ha.1⟩, h.lay.ck_0.1, s1, trivial⟩, LOk.fail X1 (by rw [hev, q1_1]; rfl) q1_2 q1_3 q1_4⟩
theorem ck_perform (X : Ctx σ N C R T) (hL : HL cs lim A σ N C F T g4 k4 Lf Ls d) (hn : n < N) (hk : ((σ.2.2.1) 5 n).toInt = 11) (hd : Dp σ n ≤ d + 1) (hv : 1 ≤ lv.toInt) (hv2 : lv.toInt + Dp σ n ≤ 41) (hs : (τ.length : Int) + Sz σ n ≤ 500) (h : (Cks cs lim A σ N C F T g4 k4) M τ K) (sc : Sc A M τ g) (ha : NodeAt M a (ndOf (σ.2.2.1) n)) : S_Ck_lookPerform cs lim fu Lf Ls M A.ck (some a) lv ∧ (LOk cs lim A σ N C F T g4 k4) M τ g K n (F_Ck_lookPerform cs fu Lf M A.ck (some a) lv) := by
  have N0 := X.nok.nd n hn
  have nz := csz_nn X.nok hn (by omega)
  obtain ⟨pa1, pa2, pa3⟩ := part_of N0.pa (N0.ha (by show 4 ≤ ((σ.2.2.1) 5 n).toInt; omega))
  have s2 := N0.s2 (by omega)
  rw [sz_of (N0.ha (by show 4 ≤ ((σ.2.2.1) 5 n).toInt; omega))] at s2
  have szb := sz_nn X.nok hn N0.pb
  have szc := sz_nn X.nok hn N0.pc
  have dpn := N0.dp
  have dpa := (X.nok.nd _ (Nat.lt_trans pa2 hn)).dp
  have sa := (X.nok.nd _ (Nat.lt_trans pa2 hn)).s1
  have hev := ev_11 (A := (σ.2.2.1)) (tk := tks σ) (gv := gvs σ) (τ := τ) (g := g) hk pa2
  unfold S_Ck_lookPerform F_Ck_lookPerform
  simp only [Option.getD_some, mbind_eq]
  have f1 : cI M a 4 = (σ.2.2.1) 9 n := ha.2 4 (by decide)
  rw [f1]
  obtain ⟨s1, r1⟩ := hL M τ g K _ ((σ.2.2.1) 9 n) (lv + 1) (Nat.lt_trans pa2 hn) pa1 (by omega) (by ((try (simp only [vp_in, Int32.toNatClampNeg, Int32.lt_iff_toInt_lt, Int32.le_iff_toInt_le, ← Int32.toInt_inj, Int32.toInt_add, Int32.toInt_sub, Int32.toInt_mul, Int32.reduceToInt, i32_neg1, Nat.reducePow, Int.reducePow, ne_eq, ge_iff_le, gt_iff_lt] at *)) <;> (first | omega | ((simp (disch := omega) only [bm32] at *) <;> omega)))) (by ((try (simp only [vp_in, Int32.toNatClampNeg, Int32.lt_iff_toInt_lt, Int32.le_iff_toInt_le, ← Int32.toInt_inj, Int32.toInt_add, Int32.toInt_sub, Int32.toInt_mul, Int32.reduceToInt, i32_neg1, Nat.reducePow, Int.reducePow, ne_eq, ge_iff_le, gt_iff_lt] at *)) <;> (first | omega | ((simp (disch := omega) only [bm32] at *) <;> omega)))) (by omega) h sc
  generalize Lf M A.ck ((σ.2.2.1) 9 n) (lv + 1) = w1 at r1 ⊢
  obtain ⟨x1, r1⟩ := r1.split
  have ha1 := ha.ext x1 (by decide)
  have X1 := x1
  rcases r1 with ⟨hw1, t1, e1, τ1, K1, q1_1, q1_2, q1_3, q1_4, q1_5, q1_6, q1_7, q1_8, q1_9, q1_10⟩ | ⟨hw1, q1_1, τ1, K1, q1_2, q1_3, q1_4⟩
  · have fv : cI w1.2 a 1 = (σ.2.2.1) 6 n := by rw [ha1.2 1 (by decide)]; show valOf (σ.2.2.1) n = _; unfold valOf; rw [if_pos (by omega)]
    obtain ⟨pf1, pf2⟩ := N0.pf (by show ((σ.2.2.1) 5 n).toInt = 11; omega)
    have ie : ((σ.2.2.1) 6 n).toInt.toNat < 8 := by omega
    obtain ⟨eo1, eo2⟩ := X.eok _ ie
    obtain ⟨ef1, ef2⟩ := q1_6.ef _ ie
    have tt := q1_6.tt
    have hb1 : (F_Ck_typeIn cs w1.2 w1.1).toInt = (t1 : Nat) := q1_2
    have et : ((σ.2.2.1) 24 ((σ.2.2.1) 6 n).toInt.toNat).toInt = (tks σ ((σ.2.2.1) 6 n).toInt.toNat : Nat) := by unfold tks; have := eo1.1; omega
    have eg : ((σ.2.2.1) 25 ((σ.2.2.1) 6 n).toInt.toNat).toInt = (gvs σ ((σ.2.2.1) 6 n).toInt.toNat : Nat) := by unfold gvs; have := eo2.1; omega
    have d1 : ¬ (σ.2.2.1) 6 n < 0 := by clear hev hL X; ((try (simp only [vp_in, Int32.toNatClampNeg, Int32.lt_iff_toInt_lt, Int32.le_iff_toInt_le, ← Int32.toInt_inj, Int32.toInt_add, Int32.toInt_sub, Int32.toInt_mul, Int32.reduceToInt, i32_neg1, Nat.reducePow, Int.reducePow, ne_eq, ge_iff_le, gt_iff_lt] at *)) <;> (first | omega | ((simp (disch := omega) only [bm32] at *) <;> omega)))
    have d2 : (σ.2.2.1) 6 n < 8 := by clear hev hL X; ((try (simp only [vp_in, Int32.toNatClampNeg, Int32.lt_iff_toInt_lt, Int32.le_iff_toInt_le, ← Int32.toInt_inj, Int32.toInt_add, Int32.toInt_sub, Int32.toInt_mul, Int32.reduceToInt, i32_neg1, Nat.reducePow, Int.reducePow, ne_eq, ge_iff_le, gt_iff_lt] at *)) <;> (first | omega | ((simp (disch := omega) only [bm32] at *) <;> omega)))
    have hcl : ((σ.2.2.1) 6 n).toNatClampNeg = ((σ.2.2.1) 6 n).toInt.toNat := rfl
    have vp : vp_in ((σ.2.2.1) 6 n) 8 := by clear hev hL X; ((try (simp only [vp_in, Int32.toNatClampNeg, Int32.lt_iff_toInt_lt, Int32.le_iff_toInt_le, ← Int32.toInt_inj, Int32.toInt_add, Int32.toInt_sub, Int32.toInt_mul, Int32.reduceToInt, i32_neg1, Nat.reducePow, Int.reducePow, ne_eq, ge_iff_le, gt_iff_lt] at *)) <;> (first | omega | ((simp (disch := omega) only [bm32] at *) <;> omega)))
    simp only [if_neg hw1, fv, if_neg d1, if_pos d2, q1_6.lay.ck_1.2, q1_6.lay.ck_2.2, q1_6.lay.ck_3.2, Option.getD_some, hcl, ef1, ef2, q1_6.lay.gv.2, q1_6.lay.rs.2]
    obtain ⟨ss, vs⟩ := q1_6.ty.suits (lim := lim) q1_6.lay hb1 et q1_5 (by unfold Is at eo1; omega)
    have o1 : cOq 1 w1.2 (some A.ty) := ⟨_, rfl, q1_6.lay.ty_0.1⟩
    rcases vs with ⟨ve, vq⟩ | ⟨ve, vq⟩
    · simp only [ve, if_neg (show ¬ (1 : Int32) = 0 by decide), F_Ck_seenAs, F_Ck_effectsIn, q1_3]
      refine ⟨⟨⟨a, rfl, ha.1⟩, h.lay.ck_0.1, s1, ⟨a, rfl, ha1.1⟩, q1_6.lay.ck_0.1, trivial, q1_6.lay.ck_0.1, ⟨trivial, q1_6.lay.gv.1⟩, vp, o1, ss, q1_6.lay.ck_0.1, ⟨trivial, q1_6.lay.rs.1⟩, vp, trivial, trivial, trivial⟩, ?_⟩
      refine LOk.good (t := gvs σ ((σ.2.2.1) 6 n).toInt.toNat) X1 eg (q1_4.or (Byte.bit (i := ((σ.2.2.1) 6 n).toInt.toNat) (by omega) ie)) (by unfold Is at eo2; omega) ?_ q1_6 q1_7 q1_8 (by omega) q1_10
      rw [hev, q1_1]
      simp only [Option.bind_some]
      rw [if_pos vq]
    · simp only [ve, if_pos]
      obtain ⟨sb1, vb, cb, xb, zb⟩ := ck_blame q1_6 6 (cI w1.2 a 4)
      rw [vb]
      refine ⟨⟨⟨a, rfl, ha.1⟩, h.lay.ck_0.1, s1, ⟨a, rfl, ha1.1⟩, q1_6.lay.ck_0.1, trivial, q1_6.lay.ck_0.1, ⟨trivial, q1_6.lay.gv.1⟩, vp, o1, ss, ⟨a, rfl, ha1.1⟩, q1_6.lay.ck_0.1, sb1, trivial⟩, ?_⟩
      refine LOk.fail (X1.trans h.lay.mok xb) ?_ cb (q1_7.trans (Pot.light zb)) q1_10
      rw [hev, q1_1]
      simp only [Option.bind_some]
      rw [if_neg vq]
  · simp only [if_pos hw1]
    exact ⟨⟨⟨a, rfl, ha.1⟩, h.lay.ck_0.1, s1, ⟨a, rfl, ha1.1⟩, trivial⟩, LOk.fail X1 (by rw [hev, q1_1]; rfl) q1_2 q1_3 q1_4⟩
end
end
