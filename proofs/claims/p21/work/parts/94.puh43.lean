-- pure rows: IX
section
/-! pure rows: the handlers of a checked program; what check names -/
theorem act_be {t : Nat} {e : Int32} {τ : TT} (h : Act.bad = Act.ends t e τ) : False := Bool.noConfusion (show false = true from congrArg Option.isSome h)
theorem act_bi {m : Nat} {g : Nat → Int} {ct : Nat} {cr : Int32} {τ : TT} (h : Act.bad = Act.into m g ct cr τ) : False := Bool.noConfusion (show false = true from congrArg Option.isSome h)
theorem act_ie {m : Nat} {g : Nat → Int} {ct : Nat} {cr : Int32} {τ : TT} {t' : Nat} {e' : Int32} {τ' : TT} (h : Act.into m g ct cr τ = Act.ends t' e' τ') : False := Bool.noConfusion (show true = false from congrArg Sum.isLeft (Option.some.inj h))
theorem act_ii {m : Nat} {g : Nat → Int} {ct : Nat} {cr : Int32} {τ : TT} {m' : Nat} {g' : Nat → Int} {ct' : Nat} {cr' : Int32} {τ' : TT} (h : Act.into m g ct cr τ = Act.into m' g' ct' cr' τ') : m = m' := congrArg Prod.fst (Sum.inl.inj (Option.some.inj h))
section
variable {A : Nat → Nat → Int32} {tk gv : Nat → Nat} {E : TT → (Nat → Int) → Nat → Res} {g : Nat → Int} {n : Nat}
theorem rest_go {f : Nat} {τ : TT} {s ct : Nat} {cr : Int32} {t : Nat} {e : Int32} {r : Nat × Int32 × TT} (h : rest A tk gv E g n (f + 1) τ s ct cr t e = some r) : (∃ t' e' τ', stg A tk gv τ g n s ct cr t e = .ends t' e' τ') ∨ ∃ m g' ct' cr' τ' r1, stg A tk gv τ g n s ct cr t e = .into m g' ct' cr' τ' ∧ E τ' g' m = some r1 ∧ rest A tk gv E g n f r1.2.2 (s + 1) ct' cr' r1.1 r1.2.1 = some r := by
  simp only [rest] at h
  generalize hs : stg A tk gv τ g n s ct cr t e = a at h ⊢
  cases a using Act.cs with
  | bad => exact absurd h (by simp [si_1, si_2, sl_1, sl_2, sl_3, ai_1, ai_2, ai_3, ai_4, al_1, al_2, al_3, al_4, cp_1, cp_2, cp_3, cp_4])
  | ends t' e' τ' => exact Or.inl ⟨t', e', τ', rfl⟩
  | into m g' ct' cr' τ' =>
    simp only at h
    by_cases hm : m < n
    · rw [if_pos hm] at h
      cases hE : E τ' g' m with
      | none => rw [hE] at h; exact absurd h (by simp [si_1, si_2, sl_1, sl_2, sl_3, ai_1, ai_2, ai_3, ai_4, al_1, al_2, al_3, al_4, cp_1, cp_2, cp_3, cp_4])
      | some r1 =>
        rw [hE] at h
        exact Or.inr ⟨m, g', ct', cr', τ', r1, rfl, hE, h⟩
    · rw [if_neg hm] at h
      exact absurd h (by simp [si_1, si_2, sl_1, sl_2, sl_3, ai_1, ai_2, ai_3, ai_4, al_1, al_2, al_3, al_4, cp_1, cp_2, cp_3, cp_4])
theorem sg_a {τ : TT} {ct : Nat} {cr : Int32} {t : Nat} {e : Int32} (h4 : 4 ≤ (A 5 n).toInt) (h11 : (A 5 n).toInt ≤ 11) : ∃ g' ct' cr' τ', stg A tk gv τ g n 0 ct cr t e = .into (A 9 n).toInt.toNat g' ct' cr' τ' := by
  have hk : (A 5 n).toInt = 4 ∨ (A 5 n).toInt = 5 ∨ (A 5 n).toInt = 6 ∨ (A 5 n).toInt = 7 ∨ (A 5 n).toInt = 8 ∨ (A 5 n).toInt = 9 ∨ (A 5 n).toInt = 10 ∨ (A 5 n).toInt = 11 := by omega
  generalize ha : stg A tk gv τ g n 0 ct cr t e = a
  rcases hk with h | h | h | h | h | h | h | h
  all_goals
    simp (decide := true) only [stg, h, if_true, if_false] at ha
    exact ⟨_, _, _, _, ha.symm⟩
theorem sg_b {τ : TT} {ct : Nat} {cr : Int32} {t : Nat} {e : Int32} {a : Act} (hk : (A 5 n).toInt = 4 ∨ (A 5 n).toInt = 5 ∨ (A 5 n).toInt = 6 ∨ (A 5 n).toInt = 8 ∨ (A 5 n).toInt = 9 ∨ (A 5 n).toInt = 10) (ha : stg A tk gv τ g n 1 ct cr t e = a) : a = .bad ∨ ∃ g' ct' cr' τ', a = .into (A 10 n).toInt.toNat g' ct' cr' τ' := by
  rcases hk with h | h | h | h | h | h
  all_goals
    simp (decide := true) only [stg, h, if_true, if_false] at ha
    first
      | exact Or.inr ⟨_, _, _, _, ha.symm⟩
      | (split at ha
         · exact Or.inr ⟨_, _, _, _, ha.symm⟩
         · exact Or.inl ha.symm)
theorem sg_c {τ : TT} {ct : Nat} {cr : Int32} {t : Nat} {e : Int32} {a : Act} (h : (A 5 n).toInt = 6) (ha : stg A tk gv τ g n 2 ct cr t e = a) : ∃ g' ct' cr' τ', a = .into (A 11 n).toInt.toNat g' ct' cr' τ' := by
  simp (decide := true) only [stg, h, if_true, if_false] at ha
  exact ⟨_, _, _, _, ha.symm⟩
theorem sg_8 {τ : TT} {q ct : Nat} {cr : Int32} {t : Nat} {e : Int32} {a : Act} (h : (A 5 n).toInt = 8) (hq : 2 ≤ q) (ha : stg A tk gv τ g n q ct cr t e = a) : a = .bad ∨ ∃ ct', a = clauses A tk gv τ g n (q - 2) ct' cr := by
  by_cases q2 : q = 2
  · subst q2
    simp (decide := true) only [stg, h, if_true, if_false] at ha
    split at ha
    · exact Or.inr ⟨_, ha.symm⟩
    · exact Or.inl ha.symm
  · have n0 : ¬ q = 0 := by omega
    have n1 : ¬ q = 1 := by omega
    simp (decide := true) only [stg, h, n0, n1, q2, if_true, if_false] at ha
    split at ha
    · exact Or.inr ⟨_, ha.symm⟩
    · exact Or.inl ha.symm
theorem rest_h (h8 : (A 5 n).toInt = 8) : ∀ (f q : Nat) (τ : TT) (ct : Nat) (cr : Int32) (t : Nat) (e : Int32) (r : Nat × Int32 × TT), 2 ≤ q → rest A tk gv E g n f τ q ct cr t e = some r → ∀ j, q - 2 ≤ j → j < (A 15 n).toInt.toNat → (¬ ∃ i, i < j ∧ A 16 ((A 14 n).toInt.toNat + i) = A 16 ((A 14 n).toInt.toNat + j)) ∧ ∃ τ' g' r', E τ' g' (A 19 ((A 14 n).toInt.toNat + j)).toInt.toNat = some r' := by
  intro f
  induction f with
  | zero => intro q τ ct cr t e r _ h; exact absurd h (by simp [si_1, si_2, sl_1, sl_2, sl_3, ai_1, ai_2, ai_3, ai_4, al_1, al_2, al_3, al_4, cp_1, cp_2, cp_3, cp_4, rest])
  | succ f ih =>
    intro q τ ct cr t e r hq h j h1 h2
    have rg := rest_go h
    clear h
    generalize hs : stg A tk gv τ g n q ct cr t e = a at rg
    have nb : a ≠ .bad := fun z => by
      subst z
      rcases rg with ⟨_, _, _, z⟩ | ⟨_, _, _, _, _, _, z, _⟩
      · exact act_be z
      · exact act_bi z
    rcases sg_8 h8 hq hs with hb | ⟨ct', hc⟩
    · exact absurd hb nb
    · unfold clauses at hc
      rw [if_pos (show q - 2 < (A 15 n).toInt.toNat by omega)] at hc
      by_cases hd : ∃ i, i < q - 2 ∧ A 16 ((A 14 n).toInt.toNat + i) = A 16 ((A 14 n).toInt.toNat + (q - 2))
      · rw [if_pos hd] at hc
        exact absurd hc nb
      · rw [if_neg hd] at hc
        rcases rg with ⟨_, _, _, z⟩ | ⟨m, g', ct'', cr', τ', r1, z, zE, zr⟩
        · rw [hc] at z; exact (act_ie z).elim
        · rw [hc] at z
          have z1 := act_ii z
          by_cases hj : j = q - 2
          · rw [hj]
            rw [← z1] at zE
            exact ⟨hd, _, _, _, zE⟩
          · exact ih (q + 1) _ _ _ _ _ _ (by omega) zr j (by omega) h2
theorem ev_parts {τ : TT} {r : Nat × Int32 × TT} (hk : 0 ≤ (A 5 n).toInt ∧ (A 5 n).toInt ≤ 11) (h : ev A tk gv τ g n = some r) : (∀ p, p ∈ parts A n → ∃ τ' g' r', ev A tk gv τ' g' p = some r') ∧ ((A 5 n).toInt = 8 → ∀ j, j < (A 15 n).toInt.toNat → ¬ ∃ i, i < j ∧ A 16 ((A 14 n).toInt.toNat + i) = A 16 ((A 14 n).toInt.toNat + j)) := by
  rw [ev_eq] at h
  have ga : 4 ≤ (A 5 n).toInt → (∃ τ' g' r', ev A tk gv τ' g' (A 9 n).toInt.toNat = some r') ∧ ∃ τ1 ct cr t e, rest A tk gv (ev A tk gv) g n 49 τ1 1 ct cr t e = some r := fun h4 => by
    obtain ⟨g', ct', cr', τ', hs⟩ := sg_a (tk := tk) (gv := gv) (g := g) (τ := τ) (ct := 0) (cr := 0) (t := 0) (e := 0) h4 hk.2
    rcases rest_go h with ⟨_, _, _, z⟩ | ⟨m, g'', ct'', cr'', τ'', r1, z, zE, zr⟩
    · rw [hs] at z; exact (act_ie z).elim
    · rw [hs] at z
      have z1 := act_ii z
      rw [← z1] at zE
      exact ⟨⟨_, _, _, zE⟩, _, _, _, _, _, zr⟩
  have gb : ((A 5 n).toInt = 4 ∨ (A 5 n).toInt = 5 ∨ (A 5 n).toInt = 6 ∨ (A 5 n).toInt = 8 ∨ (A 5 n).toInt = 9 ∨ (A 5 n).toInt = 10) → (∃ τ' g' r', ev A tk gv τ' g' (A 10 n).toInt.toNat = some r') ∧ ∃ τ1 ct cr t e, rest A tk gv (ev A tk gv) g n 48 τ1 2 ct cr t e = some r := fun hb => by
    obtain ⟨-, τ1, ct, cr, t, e, h1⟩ := ga (by omega)
    have rg := rest_go h1
    clear h h1 ga
    generalize hs : stg A tk gv τ1 g n 1 ct cr t e = a at rg
    rcases sg_b hb hs with hb | ⟨g', ct', cr', τ', hi⟩
    · subst hb
      rcases rg with ⟨_, _, _, z⟩ | ⟨_, _, _, _, _, _, z, _⟩
      · exact (act_be z).elim
      · exact (act_bi z).elim
    · subst hi
      rcases rg with ⟨_, _, _, z⟩ | ⟨m, g'', ct'', cr'', τ'', r1, z, zE, zr⟩
      · exact (act_ie z).elim
      · have z1 := act_ii z
        rw [← z1] at zE
        exact ⟨⟨_, _, _, zE⟩, _, _, _, _, _, zr⟩
  have gc : (A 5 n).toInt = 6 → ∃ τ' g' r', ev A tk gv τ' g' (A 11 n).toInt.toNat = some r' := fun h6 => by
    obtain ⟨-, τ1, ct, cr, t, e, h1⟩ := gb (by omega)
    have rg := rest_go h1
    clear h h1 ga gb
    generalize hs : stg A tk gv τ1 g n 2 ct cr t e = a at rg
    obtain ⟨g', ct', cr', τ', hi⟩ := sg_c h6 hs
    subst hi
    rcases rg with ⟨_, _, _, z⟩ | ⟨m, g'', ct'', cr'', τ'', r1, z, zE, zr⟩
    · exact (act_ie z).elim
    · have z1 := act_ii z
      rw [← z1] at zE
      exact ⟨_, _, _, zE⟩
  have gh : (A 5 n).toInt = 8 → ∀ j, j < (A 15 n).toInt.toNat → (¬ ∃ i, i < j ∧ A 16 ((A 14 n).toInt.toNat + i) = A 16 ((A 14 n).toInt.toNat + j)) ∧ ∃ τ' g' r', ev A tk gv τ' g' (A 19 ((A 14 n).toInt.toNat + j)).toInt.toNat = some r' := fun h8 j hj => by
    obtain ⟨-, τ1, ct, cr, t, e, h1⟩ := gb (by omega)
    exact rest_h h8 _ _ _ _ _ _ _ _ (Nat.le_refl _) h1 j (by omega) hj
  refine ⟨fun p hp => ?_, fun h8 j hj => (gh h8 j hj).1⟩
  unfold parts at hp
  by_cases c3 : (A 5 n).toInt ≤ 3
  · rw [if_pos c3] at hp; cases hp
  rw [if_neg c3] at hp
  by_cases c7 : (A 5 n).toInt = 7 ∨ (A 5 n).toInt = 11
  · rw [if_pos c7, List.mem_singleton] at hp
    rw [hp]
    exact (ga (by omega)).1
  rw [if_neg c7] at hp
  by_cases c6 : (A 5 n).toInt = 6
  · rw [if_pos c6] at hp
    simp only [List.mem_cons, List.not_mem_nil, or_false] at hp
    rcases hp with hp | hp | hp
    · rw [hp]; exact (ga (by omega)).1
    · rw [hp]; exact (gb (by omega)).1
    · rw [hp]; exact gc c6
  rw [if_neg c6] at hp
  by_cases c8 : (A 5 n).toInt = 8
  · rw [if_pos c8] at hp
    simp only [List.mem_cons, List.mem_map, List.mem_range] at hp
    rcases hp with hp | hp | ⟨j, hj, hp⟩
    · rw [hp]; exact (ga (by omega)).1
    · rw [hp]; exact (gb (by omega)).1
    · rw [← hp]; exact (gh c8 j hj).2
  rw [if_neg c8] at hp
  simp only [List.mem_cons, List.not_mem_nil, or_false] at hp
  rcases hp with hp | hp
  · rw [hp]; exact (ga (by omega)).1
  · rw [hp]; exact (gb (by omega)).1
end
/-- so many different numbers are not below K -/
theorem php : ∀ (K k : Nat) (f : Nat → Nat), (∀ j, j < k → f j < K) → (∀ i j, i < j → j < k → f i ≠ f j) → k ≤ K := by
  intro K
  induction K with
  | zero =>
    intro k f h1 h2
    rcases Nat.eq_zero_or_pos k with z | z
    · omega
    · have := h1 0 z
      omega
  | succ K ih =>
    intro k f h1 h2
    rcases Nat.eq_zero_or_pos k with z | z
    · omega
    obtain ⟨k', rfl⟩ : ∃ k', k = k' + 1 := ⟨k - 1, by omega⟩
    by_cases hj : ∃ j, j < k' ∧ f j = K
    · obtain ⟨j, j1, j2⟩ := hj
      have := ih k' (fun i => if i = j then f k' else f i) (fun i hi => ?_) (fun i1 i2 hi hi2 => ?_)
      · omega
      · have a := h1 i (by omega)
        have b := h1 k' (by omega)
        have c := h2 j k' j1 (by omega)
        by_cases q : i = j
        · simp only [if_pos q]; omega
        · simp only [if_neg q]
          rcases Nat.lt_trichotomy i j with y | y | y
          · have := h2 i j y (by omega); omega
          · exact absurd y q
          · have := h2 j i y (by omega); omega
      · by_cases q1 : i1 = j
        · have q2 : ¬ i2 = j := by omega
          simp only [if_pos q1, if_neg q2]
          exact fun z => h2 i2 k' (by omega) (by omega) z.symm
        · by_cases q2 : i2 = j
          · simp only [if_neg q1, if_pos q2]
            exact h2 i1 k' (by omega) (by omega)
          · simp only [if_neg q1, if_neg q2]
            exact h2 i1 i2 hi (by omega)
    · have := ih k' f (fun i hi => ?_) (fun i1 i2 hi hi2 => h2 i1 i2 hi (by omega))
      · omega
      · have a := h1 i (by omega)
        have b : f i ≠ K := fun z => hj ⟨i, hi, z⟩
        omega
/-- a checked program has no handler with more clauses than there are effects -/
theorem ev_g8 {A : Nat → Nat → Int32} {tk gv : Nat → Nat} {N : Nat} (kd : ∀ n, n < N → 0 ≤ (A 5 n).toInt ∧ (A 5 n).toInt ≤ 11) (pt : ∀ n, n < N → ∀ p, p ∈ parts A n → p < n) (cl : ∀ n, n < N → (A 5 n).toInt = 8 → ∀ q, (A 14 n).toInt.toNat ≤ q → q < (A 14 n).toInt.toNat + (A 15 n).toInt.toNat → 0 ≤ (A 16 q).toInt ∧ (A 16 q).toInt < 8) : ∀ (k n m : Nat) (τ : TT) (g : Nat → Int) (r : Nat × Int32 × TT), n < N → ev A tk gv τ g n = some r → Dsc A k n m → (A 5 m).toInt = 8 → (A 15 m).toInt ≤ 8 := by
  intro k
  induction k with
  | zero =>
    intro n m τ g r hn h hd h8
    have hd' : n = m := hd
    subst hd'
    have d := (ev_parts (kd n hn) h).2 h8
    have := php 8 (A 15 n).toInt.toNat (fun j => (A 16 ((A 14 n).toInt.toNat + j)).toInt.toNat) (fun j hj => ?_) (fun i j hi hj z => ?_)
    · omega
    · have := cl n hn h8 ((A 14 n).toInt.toNat + j) (by omega) (by omega)
      show (A 16 ((A 14 n).toInt.toNat + j)).toInt.toNat < 8
      omega
    · have c1 := cl n hn h8 ((A 14 n).toInt.toNat + i) (by omega) (by omega)
      have c2 := cl n hn h8 ((A 14 n).toInt.toNat + j) (by omega) (by omega)
      have z' : (A 16 ((A 14 n).toInt.toNat + i)).toInt.toNat = (A 16 ((A 14 n).toInt.toNat + j)).toInt.toNat := z
      exact d j hj ⟨i, hi, Int32.toInt_inj.mp (by omega)⟩
  | succ k ih =>
    intro n m τ g r hn h hd h8
    obtain ⟨p, hp, hd⟩ := hd
    obtain ⟨τ', g', r', h'⟩ := (ev_parts (kd n hn) h).1 p hp
    have hpn := pt n hn p hp
    exact ih p m τ' g' r' (by omega) h' hd h8
/-- the type that check finds, and why -/
theorem check_p {σ : mSt} {N C R : Nat} {τ : TT} (hX : TX σ τ) (hT63 : 3 + τ.length ≤ 63) (hN : NOk σ N C R (3 + τ.length)) (hE : EOk σ (3 + τ.length)) {x : Int32} {n : Nat} (hn : 3000 ≤ n) (hg : CkG σ N x) {t : Nat} {e : Int32} {τ' : TT} (hf0 : found σ τ x.toInt.toNat = some (t, e, τ')) (hl60 : τ'.length ≤ 60) : (F_Mo_check n σ x).2.1 37 = (F_Mo_check n σ x).1 ∧ ∃ P, FactsOk P ∧ Ty σ.2.2.1 P (tks σ) (gvs σ) (fun _ => -1) x.toInt.toNat t := by
  have hT := hX.ok
  obtain ⟨hx, z1, z2⟩ := hg
  have c400 : (400 : Int32).toInt = 400 := rfl
  have c40 : (40 : Int32).toInt = 40 := rfl
  have xN : x.toNatClampNeg = x.toInt.toNat := rfl
  have h12 : ¬ 400 < σ.2.2.1 12 x.toInt.toNat := by rw [Int32.lt_iff_toInt_lt, c400]; omega
  have h13 : σ.2.2.1 13 x.toInt.toNat ≤ 40 := by rw [Int32.le_iff_toInt_le, c40]; omega
  simp only [F_Mo_check, mbind_eq, isNode_F hN.n]
  have hnn := hN.hn
  simp only [if_pos hx, show ¬ ((1 : Int32) = 0) by decide, if_false]
  rw [xN]
  simp only [if_neg h12, if_pos h13]
  have xx : 0 ≤ x.toInt ∧ x.toInt < N := hx
  simp only [F_Mo_check_j41, si_1, if_true, mbind_eq, show ¬ ((3 : Nat) = 4) by decide, if_false]
  have tab := TabOk.of hN
  generalize hs0 : mo_si (mo_si (mo_si (mo_si (mo_si (mo_si (mo_si σ 4 0) 34 0) 35 (-1)) 39 1) 36 (-1)) 46 0) 31 0 = σ0
  have f0 : ∀ k, k < 4 → σ0.1 k = σ.1 k := by
    intro k hk; rw [← hs0]; simp only [si_1]; repeat rw [if_neg (by omega)]
  have a0 : σ0.2 = σ.2 := by rw [← hs0]; rfl
  have t0 : TOk σ0 (3 + τ.length) := hT.congr (f0 3 (by omega)) (fun k _ _ => by rw [a0])
  have tx0 : TX σ0 τ := hX.congr (f0 3 (by omega)) (fun k _ _ => by rw [a0])
  have n0 : NOk σ0 N C R (3 + τ.length) := hN.congr (Nat.le_refl _) (fun k hk => f0 k (by omega)) (fun k _ _ => by rw [a0])
  have r0 : σ0.1 34 = 0 := by rw [← hs0]; simp [si_1, si_2, sl_1, sl_2, sl_3, ai_1, ai_2, ai_3, ai_4, al_1, al_2, al_3, al_4, cp_1, cp_2, cp_3, cp_4]
  have c0 : (σ0.1 31).toInt = 0 := by rw [← hs0]; simp [si_1, si_2, sl_1, sl_2, sl_3, ai_1, ai_2, ai_3, ai_4, al_1, al_2, al_3, al_4, cp_1, cp_2, cp_3, cp_4]
  clear hs0
  obtain ⟨_, ip⟩ := into_ok (c := 0) (σ := σ0) (by omega) c0 (n := n) (by omega) (x := x)
  have i29 := into_29 (c := 0) (σ := σ0) c0 (by omega) (n := n) (by omega) (x := x)
  generalize F_Mo_into n σ0 x = σ1 at *
  have t1 : TOk σ1 (3 + τ.length) := t0.congr (ip.f 3 (by decide)) (fun k _ _ => ip.a k (by omega))
  have tx1 : TX σ1 τ := tx0.congr (ip.f 3 (by decide)) (fun k _ _ => ip.a k (by omega))
  have en0 : en σ1 0 = x.toInt.toNat := by unfold en; rw [ip.nd]
  have es0' : es σ1 0 = 0 := by unfold es; rw [ip.st]; rfl
  have ec0 : ec σ1 0 = 0 := by unfold ec; rw [ip.ty]; rfl
  have row0 : row σ1 0 = fun _ => -1 := by
    funext k; unfold row; split
    · rename_i hk; have := ip.new k hk; rw [this]; rfl
    · rfl
  have arr : ∀ k, 5 ≤ k → k ≤ 19 → σ1.2.2.1 k = σ.2.2.1 k := fun k _ _ => by rw [ip.a k (by omega), a0]
  have pn := pot_new tab (m := x.toInt.toNat) (by omega) (by omega)
  have ci : CI σ.2.2.1 (tks σ) (gvs σ) N x.toInt.toNat σ1 1 (3 + τ.length) := by
    refine ⟨t1, arr, ip.f31, ?_, ?_, ?_, ?_, ?_, ?_, ?_, fun _ => ⟨en0, row0⟩, ?_, fun h => absurd h (by decide), ?_⟩
    · intro i hi; have : i = 0 := by omega
      subst this; rw [ip.nd]; exact xx
    · intro i hi; have : i = 0 := by omega
      subst this; rw [ip.st]; simp [si_1, si_2, sl_1, sl_2, sl_3, ai_1, ai_2, ai_3, ai_4, al_1, al_2, al_3, al_4, cp_1, cp_2, cp_3, cp_4]
    · intro i hi; have : i = 0 := by omega
      subst this; rw [en0]; omega
    · intro i hi; have : i = 0 := by omega
      subst this; rw [en0]; omega
    · intro i hi; have : i = 0 := by omega
      subst this; rw [ip.ty]; decide
    · intro i hi k hk; have : i = 0 := by omega
      subst this
      have := ip.new k hk
      rw [this, if_pos rfl]; simp only [i32_neg1]; omega
    · intro i hi; omega
    · intro i hi; have : i = 0 := by omega
      subst this; exact Or.inl es0'
    · simp only [sumTo, en0, es0']; omega
  have si1 : SI σ.2.2.1 (tks σ) (gvs σ) N C R x.toInt.toNat σ1 1 (3 + τ.length) := by
    refine ⟨ci, n0.congr (Nat.le_refl _) (fun k hk => ip.f k (by omega)) (fun k _ _ => ip.a k (by omega)), fun e he => ?_, tab⟩
    have := hE e he
    unfold Is at this
    unfold tks gvs
    rw [ip.a 24 (by omega), ip.a 25 (by omega), a0]
    omega
  have hmu : mu σ.2.2.1 σ1 1 ≤ 1000 := by simp only [mu, sumTo, en0, es0']; omega
  have f34 : σ1.1 34 = 0 := by rw [ip.f 34 (by decide)]; exact r0
  obtain ⟨_, T', g1, g2, g3, g4, g5⟩ := check_93_ok (x1 := x) (x2 := σ.1 3) 1000 σ1 1 (3 + τ.length) n si1 hmu (by omega)
  obtain ⟨y1, y2⟩ := check_93_x (x1 := x) (x2 := σ.1 3) 1000 σ1 1 τ n si1 tx1 f34 hmu (by omega)
  have cm : comesTo σ.2.2.1 (tks σ) (gvs σ) σ1 1 τ = found σ τ x.toInt.toNat := by
    show topv σ.2.2.1 (tks σ) (gvs σ) σ1 0 τ = _
    unfold topv found
    rw [row0, en0, es0', ec0, i29]
    exact rest_0 _ _
  rw [cm] at y1 y2
  generalize hw : F_Mo_check_93 n σ1 x (σ.1 3) = w at *
  obtain ⟨σ2, w2⟩ := w
  simp only at g1 g2 g4 g5 y1 y2 ⊢
  subst g1
  simp only
  simp only [F_Mo_check_j114, F_Mo_check_j136]
  by_cases hf : σ2.1 34 = 0
  rotate_left
  · exfalso
    rw [y1 hf] at hf0
    cases hf0
  simp only [if_pos hf]
  obtain ⟨τ2, tx', ef⟩ := y2 hf
  rw [ef] at hf0
  have e3 := Option.some.inj hf0
  have e4 : (σ2.1 32).toInt.toNat = t := congrArg Prod.fst e3
  have e5 : τ2 = τ' := congrArg (fun z => z.2.2) e3
  subst e5
  have n3 := tx'.ok.n
  have h63 : σ2.1 3 ≤ 63 := by
    rw [Int32.le_iff_toInt_le, n3, show (63 : Int32).toInt = 63 from rfl]
    omega
  simp only [if_pos h63]
  have b34 : (F_Mo_begin (mo_si σ2 4 0)).1 34 = 0 := by rw [begin_f (by omega), si_1, if_neg (by omega)]; exact hf
  obtain ⟨t', d1, d2, d3⟩ := (g5 hf).ci.done rfl
  simp only [F_Mo_check_j149, mbind_eq, si_1, show ¬ (34 = 46) by decide, if_false, if_pos b34]
  refine ⟨?_, facts σ2 T', FactsOk.of g2, ?_⟩
  · simp (decide := true) only [if_false, if_true]
  · have : t' = t := by omega
    rw [← this]
    exact d1
end
