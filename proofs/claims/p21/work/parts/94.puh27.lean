-- pure rows: IH
section
/-! pure rows: continuations are gone on with -/
theorem nd_app : ∀ {L1 L2 : List Nat}, L1.Nodup → L2.Nodup → (∀ z, z ∈ L1 → z ∉ L2) → (L1 ++ L2).Nodup := by
  intro L1
  induction L1 with
  | nil => intro L2 _ h _; exact h
  | cons a L ih =>
    intro L2 h1 h2 h
    obtain ⟨g1, g2⟩ := List.nodup_cons.mp h1
    refine List.nodup_cons.mpr ⟨fun z => ?_, ih g2 h2 (fun z hz => h z (by simp [si_1, si_2, sl_1, sl_2, sl_3, ai_1, ai_2, ai_3, ai_4, al_1, al_2, al_3, al_4, cp_1, cp_2, cp_3, cp_4, hz]))⟩
    rcases List.mem_append.mp z with q | q
    · exact g1 q
    · exact h a (by simp [si_1, si_2, sl_1, sl_2, sl_3, ai_1, ai_2, ai_3, ai_4, al_1, al_2, al_3, al_4, cp_1, cp_2, cp_3, cp_4]) q
theorem nd_spl : ∀ {L1 L2 : List Nat}, (L1 ++ L2).Nodup → L1.Nodup ∧ L2.Nodup ∧ ∀ z, z ∈ L1 → z ∉ L2 := by
  intro L1
  induction L1 with
  | nil => intro L2 h; exact ⟨List.nodup_nil, h, fun z hz => by cases hz⟩
  | cons a L ih =>
    intro L2 h
    obtain ⟨g1, g2⟩ := List.nodup_cons.mp h
    obtain ⟨i1, i2, i3⟩ := ih g2
    refine ⟨List.nodup_cons.mpr ⟨fun z => g1 (List.mem_append.mpr (Or.inl z)), i1⟩, i2, fun z hz => ?_⟩
    rcases List.mem_cons.mp hz with q | q
    · rw [q]; exact fun y => g1 (List.mem_append.mpr (Or.inr y))
    · exact i3 z q
theorem Bs.monoF {X : Cx} {G : Nat → Int32} {S S' : Sto} {μ μ' : Mp} {w w' : Vw} {Tv Tv' : Nat → Prop} : ∀ {L : List Nat} {rf : List Fr} {t u W : Nat}, Bs X G S μ w Tv L rf t u W → S.le S' → MpLe S μ μ' → (∀ c, c ∈ L → (∀ j, w'.1 c j = w.1 c j) ∧ (∀ k, w'.2.1 c k = w.2.1 c k) ∧ w'.2.2 c 3 = w.2.2 c 3) → (∀ z, Tv z → SameT w w' z ∧ Tv' z) → Bs X G S' μ' w' Tv' L rf t u W := by
  intro L
  induction L with
  | nil => intro rf t u W h _ _ _ _; exact h
  | cons a L ih =>
    intro rf t u W h hS hm hL ht
    obtain ⟨s, hh, r, Fs, b, rest, u1, W1, h1, h2, h3, h4, h5⟩ := h
    have ha := hL a (by simp [si_1, si_2, sl_1, sl_2, sl_3, ai_1, ai_2, ai_3, ai_4, al_1, al_2, al_3, al_4, cp_1, cp_2, cp_3, cp_4])
    exact ⟨s, hh, r, Fs, b, rest, u1, W1, ⟨fun j => (ha.1 j).trans (h1.1 j), (ha.2.1 1).trans h1.2.1, (ha.2.1 2).trans h1.2.2⟩, h2, h3.mono hS hm ha.2.2 ht, ih h4 hS hm (fun c hc => hL c (by simp [si_1, si_2, sl_1, sl_2, sl_3, ai_1, ai_2, ai_3, ai_4, al_1, al_2, al_3, al_4, cp_1, cp_2, cp_3, cp_4, hc])) ht, h5⟩
section
variable {X : Cx} {σ σ' σ1 : mSt} {F n nd i k f m : Nat} {x x1 : Int32}
/-- what going on leaves of the reference -/
def Ro (σ σ' : mSt) (F k f m : Nat) : Prop := ((σ'.1 44).toInt = F + m) ∧ (rfs σ' (F + m) = kfs σ f m ++ rfs σ F) ∧ (σ'.1 51 ≠ 0) ∧ (σ'.2.1 = σ.2.1) ∧ (∀ j, 46 ≤ j → j ≠ 49 → j ≠ 51 → σ'.1 j = σ.1 j) ∧ (σ'.1 49 = σ.1 49 + σ.2.2.1 59 k) ∧ (∀ j, j ≠ 40 → j ≠ 41 → j ≠ 60 → σ'.2.2.1 j = σ.2.2.1 j) ∧ (∀ i, σ'.2.2.1 60 i = if i = k then 1 else σ.2.2.1 60 i) ∧ (∀ j, j ≠ 42 → j ≠ 43 → σ'.2.2.2 j = σ.2.2.2 j)
theorem Ro.f44 {σ σ' : mSt} {F k f m : Nat} (self : Ro σ σ' F k f m) : (σ'.1 44).toInt = F + m := self.1
theorem Ro.rf {σ σ' : mSt} {F k f m : Nat} (self : Ro σ σ' F k f m) : rfs σ' (F + m) = kfs σ f m ++ rfs σ F := self.2.1
theorem Ro.f51 {σ σ' : mSt} {F k f m : Nat} (self : Ro σ σ' F k f m) : σ'.1 51 ≠ 0 := self.2.2.1
theorem Ro.vl {σ σ' : mSt} {F k f m : Nat} (self : Ro σ σ' F k f m) : σ'.2.1 = σ.2.1 := self.2.2.2.1
theorem Ro.fk {σ σ' : mSt} {F k f m : Nat} (self : Ro σ σ' F k f m) : ∀ j, 46 ≤ j → j ≠ 49 → j ≠ 51 → σ'.1 j = σ.1 j := self.2.2.2.2.1
theorem Ro.f49 {σ σ' : mSt} {F k f m : Nat} (self : Ro σ σ' F k f m) : σ'.1 49 = σ.1 49 + σ.2.2.1 59 k := self.2.2.2.2.2.1
theorem Ro.a {σ σ' : mSt} {F k f m : Nat} (self : Ro σ σ' F k f m) : ∀ j, j ≠ 40 → j ≠ 41 → j ≠ 60 → σ'.2.2.1 j = σ.2.2.1 j := self.2.2.2.2.2.2.1
theorem Ro.a60 {σ σ' : mSt} {F k f m : Nat} (self : Ro σ σ' F k f m) : ∀ i, σ'.2.2.1 60 i = if i = k then 1 else σ.2.2.1 60 i := self.2.2.2.2.2.2.2.1
theorem Ro.al {σ σ' : mSt} {F k f m : Nat} (self : Ro σ σ' F k f m) : ∀ j, j ≠ 42 → j ≠ 43 → σ'.2.2.2 j = σ.2.2.2 j := self.2.2.2.2.2.2.2.2
theorem r_goon (f44 : (σ.1 44).toInt = F + 1) (hF : σ.1 49 + σ.2.2.1 59 k ≤ 400 → F + m ≤ 17000) (hF2 : F < 17000) (hk : x.toInt = k) (hk2 : k < 1000) (k57 : (σ.2.2.1 57 k).toInt = f) (k58 : (σ.2.2.1 58 k).toInt = m) (hfm : f + m ≤ 42000) (hn : 42100 ≤ n) :
    (σ.2.2.1 60 k ≠ 0 → F_Mo_goOn n σ x = mo_si σ 46 3) ∧ (σ.2.2.1 60 k = 0 → ¬ σ.1 49 + σ.2.2.1 59 k ≤ 400 → F_Mo_goOn n σ x = mo_si σ 46 6) ∧ (σ.2.2.1 60 k = 0 → σ.1 49 + σ.2.2.1 59 k ≤ 400 → Ro σ (F_Mo_goOn n σ x) F k f m) := by
  have e1 : x.toNatClampNeg = k := by show x.toInt.toNat = k; omega
  refine ⟨fun h60 => ?_, fun h60 h4 => ?_, fun h60 h4 => ?_⟩
  · simp only [F_Mo_goOn, e1, if_neg h60, F_Mo_goOn_j26]
  · simp only [F_Mo_goOn, e1, if_pos h60, if_neg h4, F_Mo_goOn_j26]
  · have hF := hF h4
    have i44 : (σ.1 44 - 1).toInt = F := by clear k57 k58 h4; ((try (simp only [vp_in, Int32.toNatClampNeg, Int32.lt_iff_toInt_lt, Int32.le_iff_toInt_le, ← Int32.toInt_inj, Int32.toInt_add, Int32.toInt_sub, Int32.toInt_mul, Int32.reduceToInt, i32_neg1, Nat.reducePow, Int.reducePow, ne_eq, ge_iff_le, gt_iff_lt] at *)) <;> (first | omega | ((simp (disch := omega) only [bm32] at *) <;> omega)))
    simp only [F_Mo_goOn, mbind_eq, e1, if_pos h60, if_pos h4]
    simp (decide := true) only [si_1, ai_1, if_false, if_true, si_2, ai_3, false_and]
    obtain ⟨-, gp⟩ := goOn_85_ok (x1 := x) (k := k) (from' := f) (many := m) hk hk2 m n F f (mo_si (mo_ai (mo_si σ 44 (σ.1 44 - 1)) 60 k 1) 49 (σ.1 49 + σ.2.2.1 59 k)) (σ.2.2.1 57 k) (by simp [si_1, si_2, sl_1, sl_2, sl_3, ai_1, ai_2, ai_3, ai_4, al_1, al_2, al_3, al_4, cp_1, cp_2, cp_3, cp_4, k57]) (by simp [si_1, si_2, sl_1, sl_2, sl_3, ai_1, ai_2, ai_3, ai_4, al_1, al_2, al_3, al_4, cp_1, cp_2, cp_3, cp_4, k58]) hfm rfl k57 (by simp [si_1, si_2, sl_1, sl_2, sl_3, ai_1, ai_2, ai_3, ai_4, al_1, al_2, al_3, al_4, cp_1, cp_2, cp_3, cp_4, i44]) hF (by omega)
    generalize F_Mo_goOn_85 n (mo_si (mo_ai (mo_si σ 44 (σ.1 44 - 1)) 60 k 1) 49 (σ.1 49 + σ.2.2.1 59 k)) x (σ.2.2.1 57 k) = σ2 at *
    have ek : kfr (mo_si (mo_ai (mo_si σ 44 (σ.1 44 - 1)) 60 k 1) 49 (σ.1 49 + σ.2.2.1 59 k)) = kfr σ := kfr_of (fun j hj => by funext y; simp only [si_2, ai_3]; rw [if_neg (by omega)]) (fun j _ => rfl)
    have ef : frm (mo_si (mo_ai (mo_si σ 44 (σ.1 44 - 1)) 60 k 1) 49 (σ.1 49 + σ.2.2.1 59 k)) = frm σ := frm_of (fun j hj => by funext y; simp only [si_2, ai_3]; rw [if_neg (by omega)]) (fun j _ => rfl)
    have fr := gp.fr
    rw [ek, ef] at fr
    refine ⟨?_, ?_, by simp [si_1, si_2, sl_1, sl_2, sl_3, ai_1, ai_2, ai_3, ai_4, al_1, al_2, al_3, al_4, cp_1, cp_2, cp_3, cp_4], gp.l, fun j h1 h2 h3 => ?_, ?_, fun j h1 h2 h3 => ?_, fun i => ?_, fun j h1 h2 => ?_⟩
    · rw [si_1, if_neg (by omega), gp.f44]
    · have := rfs_go (σ := σ) (σ' := mo_si σ2 51 1) (F := F) (q := f) (m := m) (fun i => fr i) m (Nat.le_refl _)
      exact this
    · rw [si_1, if_neg h3, gp.f j (by omega)]; simp only [si_1, ai_1]; rw [if_neg h2, if_neg (by omega)]
    · rw [si_1, if_neg (by omega), gp.f 49 (by omega)]; simp [si_1, si_2, sl_1, sl_2, sl_3, ai_1, ai_2, ai_3, ai_4, al_1, al_2, al_3, al_4, cp_1, cp_2, cp_3, cp_4]
    · rw [si_2, gp.a j h1 h2]; funext y; simp only [si_2, ai_3]; rw [if_neg (by omega)]
    · rw [si_2, gp.a 60 (by omega) (by omega)]; simp only [si_2, ai_3]
      by_cases z : i = k
      · rw [if_pos ⟨trivial, z⟩, if_pos z]
      · rw [if_neg (fun q => z q.2), if_neg z]
    · rw [si_2, gp.al j h1 h2]; rfl
end
end
