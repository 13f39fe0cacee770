-- pure rows: IJ
section
/-! pure rows: an effect is performed, by the reference -/
theorem keep_60 {σ : mSt} {nk K h m : Nat} (h61 : (σ.1 61).toInt = nk) (h62 : (σ.1 62).toInt = K) (hK : K + m ≤ 42000) {x1 x2 x3 : Int32} (hx1 : x1.toInt = h) (hx2 : x2.toInt = h + m) (hm : h + m ≤ 17000) {n : Nat} (hn : m + 20 < n) (i : Nat) : (F_Mo_keep n σ x1 x2 x3).2.2.1 60 i = if i = nk then 0 else σ.2.2.1 60 i := by
  have e61 : (σ.1 61).toNatClampNeg = nk := by show (σ.1 61).toInt.toNat = nk; omega
  simp only [F_Mo_keep, mbind_eq, ai_1, e61]
  obtain ⟨-, k⟩ := keep_58_ok (x2 := x2) m n K h (mo_si (mo_ai (mo_ai (mo_ai (mo_ai σ 57 nk (σ.1 62)) 58 nk (x2 - x1)) 59 nk x3) 60 nk 0) 61 (σ.1 61 + 1)) x1 (by simp [si_1, si_2, sl_1, sl_2, sl_3, ai_1, ai_2, ai_3, ai_4, al_1, al_2, al_3, al_4, cp_1, cp_2, cp_3, cp_4, h62]) hK hx1 hx2 hm hn
  rw [k.a 60 (by omega) (by omega)]
  simp only [si_2, ai_3]
  by_cases hi : i = nk
  · rw [if_pos ⟨trivial, hi⟩, if_pos hi]
  · rw [if_neg (fun z => hi z.2), if_neg (by omega), if_neg (by omega), if_neg (by omega), if_neg hi]
theorem pf_ar {a y : Int32} {m : Nat} (h0 : 0 ≤ a.toInt) (h1 : a.toInt ≤ 1000) (hy : y.toInt = m) (hm : m ≤ 17000) : (a.toInt + 1 + m ≤ 1000 → a + 1 + y ≤ 1000) ∧ (1000 < a.toInt + 1 + m → ¬ a + 1 + y ≤ 1000) ∧ (a + (1 + y)).toInt = a.toInt + 1 + m := by
  refine ⟨fun h => ?_, fun h => ?_, ?_⟩
  · ((try (simp only [vp_in, Int32.toNatClampNeg, Int32.lt_iff_toInt_lt, Int32.le_iff_toInt_le, ← Int32.toInt_inj, Int32.toInt_add, Int32.toInt_sub, Int32.toInt_mul, Int32.reduceToInt, i32_neg1, Nat.reducePow, Int.reducePow, ne_eq, ge_iff_le, gt_iff_lt] at *)) <;> (first | omega | ((simp (disch := omega) only [bm32] at *) <;> omega)))
  · ((try (simp only [vp_in, Int32.toNatClampNeg, Int32.lt_iff_toInt_lt, Int32.le_iff_toInt_le, ← Int32.toInt_inj, Int32.toInt_add, Int32.toInt_sub, Int32.toInt_mul, Int32.reduceToInt, i32_neg1, Nat.reducePow, Int.reducePow, ne_eq, ge_iff_le, gt_iff_lt] at *)) <;> (first | omega | ((simp (disch := omega) only [bm32] at *) <;> omega)))
  · ((try (simp only [vp_in, Int32.toNatClampNeg, Int32.lt_iff_toInt_lt, Int32.le_iff_toInt_le, ← Int32.toInt_inj, Int32.toInt_add, Int32.toInt_sub, Int32.toInt_mul, Int32.reduceToInt, i32_neg1, Nat.reducePow, Int.reducePow, ne_eq, ge_iff_le, gt_iff_lt] at *)) <;> (first | omega | ((simp (disch := omega) only [bm32] at *) <;> omega)))
theorem pf_dp {a y : Int32} {m : Nat} (h0 : 0 ≤ a.toInt) (h1 : a.toInt ≤ 400) (hy : y.toInt = m) (hm : m ≤ 17000) : (a - (y - 1)).toInt = a.toInt - m + 1 := by ((try (simp only [vp_in, Int32.toNatClampNeg, Int32.lt_iff_toInt_lt, Int32.le_iff_toInt_le, ← Int32.toInt_inj, Int32.toInt_add, Int32.toInt_sub, Int32.toInt_mul, Int32.reduceToInt, i32_neg1, Nat.reducePow, Int.reducePow, ne_eq, ge_iff_le, gt_iff_lt] at *)) <;> (first | omega | ((simp (disch := omega) only [bm32] at *) <;> omega)))
theorem pf_ng {a : Int32} {m : Nat} (h : a.toInt = m) (hm : m ≤ 2000) : (-a).toInt64.toInt = -(m : Int) := by
  rw [Int32.toInt_toInt64]
  have : (-a).toInt = -a.toInt := by
    rw [Int32.toInt_neg]
    exact bm32 (by omega)
  rw [this, h]
/-- what performing leaves of the reference -/
def Rp (X : Cx) (σ σ' : mSt) (h nk K m many qq : Nat) : Prop := ((σ'.1 44).toInt = h + 1) ∧ (∃ fr : Fr, fr.node = -1 ∧ rfs σ' (h + 1) = fr :: rfs σ h) ∧ (σ'.1 45 = X.A 19 qq) ∧ (σ'.1 51 = 0) ∧ ((X.A 17 qq).toInt.toNat ≠ (X.A 18 qq).toInt.toNat → nsee σ' (X.A 17 qq).toInt.toNat = σ.2.1) ∧ ((nsee σ' (X.A 18 qq).toInt.toNat).toInt = -((nk + 1 : Nat) : Int)) ∧ (∀ k, k < 10 → k ≠ (X.A 17 qq).toInt.toNat → k ≠ (X.A 18 qq).toInt.toNat → nsee σ' k = (frm σ h).see k) ∧ (σ'.1 46 = σ.1 46) ∧ (σ'.1 47 = σ.1 47) ∧ ((σ'.1 48).toInt = (σ.1 48).toInt + 1 + many) ∧ ((σ'.1 49).toInt = (σ.1 49).toInt - many + 1) ∧ (σ'.1 56 = σ.1 56) ∧ ((σ'.1 61).toInt = nk + 1) ∧ (∀ k, k < 40 → σ'.2.2.1 k = σ.2.2.1 k) ∧ (σ'.2.2.1 54 = σ.2.2.1 54) ∧ (σ'.2.2.2 55 = σ.2.2.2 55) ∧ (∀ i, (σ'.2.2.1 57 i).toInt = if i = nk then (K : Int) else (σ.2.2.1 57 i).toInt) ∧ (∀ i, (σ'.2.2.1 58 i).toInt = if i = nk then (m : Int) else (σ.2.2.1 58 i).toInt) ∧ (∀ i, σ'.2.2.1 59 i = if i = nk then nI many else σ.2.2.1 59 i) ∧ (∀ i, σ'.2.2.1 60 i = if i = nk then 0 else σ.2.2.1 60 i) ∧ (∀ i, kfr σ' i = if K ≤ i ∧ i < K + m then frm σ (h + (i - K)) else kfr σ i)
theorem Rp.f44 {X : Cx} {σ σ' : mSt} {h nk K m many qq : Nat} (self : Rp X σ σ' h nk K m many qq) : (σ'.1 44).toInt = h + 1 := self.1
theorem Rp.rf {X : Cx} {σ σ' : mSt} {h nk K m many qq : Nat} (self : Rp X σ σ' h nk K m many qq) : ∃ fr : Fr, fr.node = -1 ∧ rfs σ' (h + 1) = fr :: rfs σ h := self.2.1
theorem Rp.f45 {X : Cx} {σ σ' : mSt} {h nk K m many qq : Nat} (self : Rp X σ σ' h nk K m many qq) : σ'.1 45 = X.A 19 qq := self.2.2.1
theorem Rp.f51 {X : Cx} {σ σ' : mSt} {h nk K m many qq : Nat} (self : Rp X σ σ' h nk K m many qq) : σ'.1 51 = 0 := self.2.2.2.1
theorem Rp.s17 {X : Cx} {σ σ' : mSt} {h nk K m many qq : Nat} (self : Rp X σ σ' h nk K m many qq) : (X.A 17 qq).toInt.toNat ≠ (X.A 18 qq).toInt.toNat → nsee σ' (X.A 17 qq).toInt.toNat = σ.2.1 := self.2.2.2.2.1
theorem Rp.s18 {X : Cx} {σ σ' : mSt} {h nk K m many qq : Nat} (self : Rp X σ σ' h nk K m many qq) : (nsee σ' (X.A 18 qq).toInt.toNat).toInt = -((nk + 1 : Nat) : Int) := self.2.2.2.2.2.1
theorem Rp.see {X : Cx} {σ σ' : mSt} {h nk K m many qq : Nat} (self : Rp X σ σ' h nk K m many qq) : ∀ k, k < 10 → k ≠ (X.A 17 qq).toInt.toNat → k ≠ (X.A 18 qq).toInt.toNat → nsee σ' k = (frm σ h).see k := self.2.2.2.2.2.2.1
theorem Rp.f46 {X : Cx} {σ σ' : mSt} {h nk K m many qq : Nat} (self : Rp X σ σ' h nk K m many qq) : σ'.1 46 = σ.1 46 := self.2.2.2.2.2.2.2.1
theorem Rp.f47 {X : Cx} {σ σ' : mSt} {h nk K m many qq : Nat} (self : Rp X σ σ' h nk K m many qq) : σ'.1 47 = σ.1 47 := self.2.2.2.2.2.2.2.2.1
theorem Rp.f48 {X : Cx} {σ σ' : mSt} {h nk K m many qq : Nat} (self : Rp X σ σ' h nk K m many qq) : (σ'.1 48).toInt = (σ.1 48).toInt + 1 + many := self.2.2.2.2.2.2.2.2.2.1
theorem Rp.f49 {X : Cx} {σ σ' : mSt} {h nk K m many qq : Nat} (self : Rp X σ σ' h nk K m many qq) : (σ'.1 49).toInt = (σ.1 49).toInt - many + 1 := self.2.2.2.2.2.2.2.2.2.2.1
theorem Rp.f56 {X : Cx} {σ σ' : mSt} {h nk K m many qq : Nat} (self : Rp X σ σ' h nk K m many qq) : σ'.1 56 = σ.1 56 := self.2.2.2.2.2.2.2.2.2.2.2.1
theorem Rp.f61 {X : Cx} {σ σ' : mSt} {h nk K m many qq : Nat} (self : Rp X σ σ' h nk K m many qq) : (σ'.1 61).toInt = nk + 1 := self.2.2.2.2.2.2.2.2.2.2.2.2.1
theorem Rp.tab {X : Cx} {σ σ' : mSt} {h nk K m many qq : Nat} (self : Rp X σ σ' h nk K m many qq) : ∀ k, k < 40 → σ'.2.2.1 k = σ.2.2.1 k := self.2.2.2.2.2.2.2.2.2.2.2.2.2.1
theorem Rp.a54 {X : Cx} {σ σ' : mSt} {h nk K m many qq : Nat} (self : Rp X σ σ' h nk K m many qq) : σ'.2.2.1 54 = σ.2.2.1 54 := self.2.2.2.2.2.2.2.2.2.2.2.2.2.2.1
theorem Rp.a55 {X : Cx} {σ σ' : mSt} {h nk K m many qq : Nat} (self : Rp X σ σ' h nk K m many qq) : σ'.2.2.2 55 = σ.2.2.2 55 := self.2.2.2.2.2.2.2.2.2.2.2.2.2.2.2.1
theorem Rp.a57 {X : Cx} {σ σ' : mSt} {h nk K m many qq : Nat} (self : Rp X σ σ' h nk K m many qq) : ∀ i, (σ'.2.2.1 57 i).toInt = if i = nk then (K : Int) else (σ.2.2.1 57 i).toInt := self.2.2.2.2.2.2.2.2.2.2.2.2.2.2.2.2.1
theorem Rp.a58 {X : Cx} {σ σ' : mSt} {h nk K m many qq : Nat} (self : Rp X σ σ' h nk K m many qq) : ∀ i, (σ'.2.2.1 58 i).toInt = if i = nk then (m : Int) else (σ.2.2.1 58 i).toInt := self.2.2.2.2.2.2.2.2.2.2.2.2.2.2.2.2.2.1
theorem Rp.a59 {X : Cx} {σ σ' : mSt} {h nk K m many qq : Nat} (self : Rp X σ σ' h nk K m many qq) : ∀ i, σ'.2.2.1 59 i = if i = nk then nI many else σ.2.2.1 59 i := self.2.2.2.2.2.2.2.2.2.2.2.2.2.2.2.2.2.2.1
theorem Rp.a60 {X : Cx} {σ σ' : mSt} {h nk K m many qq : Nat} (self : Rp X σ σ' h nk K m many qq) : ∀ i, σ'.2.2.1 60 i = if i = nk then 0 else σ.2.2.1 60 i := self.2.2.2.2.2.2.2.2.2.2.2.2.2.2.2.2.2.2.2.1
theorem Rp.kf {X : Cx} {σ σ' : mSt} {h nk K m many qq : Nat} (self : Rp X σ σ' h nk K m many qq) : ∀ i, kfr σ' i = if K ≤ i ∧ i < K + m then frm σ (h + (i - K)) else kfr σ i := self.2.2.2.2.2.2.2.2.2.2.2.2.2.2.2.2.2.2.2.2
theorem r_perf {X : Cx} (hX : X.Ok) {S : Sto} {σ : mSt} {K q F c w t u : Nat} {d : Int} (r : RunJ X S σ K q (F + 1) c w t u d) (hct : ctd X.A (frm σ F).node = 0) {x1 : Int32} {n : Nat} (hn : 42100 ≤ n) :
    ((∀ i, i < F → Mis X x1 (frm σ i)) ∧ F_Mo_performs n σ x1 = mo_si (mo_si σ 46 4) 50 x1) ∨
    ∃ h nd qq many : Nat, h < F ∧ Hit X x1 (frm σ h) nd qq ∧ (∀ i, h < i → i < F → Mis X x1 (frm σ i)) ∧ many = cnt X.A (frm σ) h (F - h) ∧ (1000 < (σ.1 48).toInt + 1 + many → F_Mo_performs n σ x1 = mo_si σ 46 5) ∧ ((σ.1 48).toInt + 1 + many ≤ 1000 → Rp X σ (F_Mo_performs n σ x1) h S.nk K (F - h) many qq) := by
  have f44 := r.f44
  have f49 := r.f49
  have c400 := r.c400
  have hF := r.F hX
  have th := r.hp.th
  have hkK := r.hp.hk
  obtain ⟨v, c', w', d', tp, -⟩ := r.top
  have hc := tp.hc
  rw [hct] at hc
  have i44 : (σ.1 44 - 2).toInt = F - 1 := by clear r tp hct; ((try (simp only [vp_in, Int32.toNatClampNeg, Int32.lt_iff_toInt_lt, Int32.le_iff_toInt_le, ← Int32.toInt_inj, Int32.toInt_add, Int32.toInt_sub, Int32.toInt_mul, Int32.reduceToInt, i32_neg1, Nat.reducePow, Int.reducePow, ne_eq, ge_iff_le, gt_iff_lt] at *)) <;> (first | omega | ((simp (disch := omega) only [bm32] at *) <;> omega)))
  have nodes : ∀ i, i < F → (frm σ i).node = -1 ∨ ∃ nd : Nat, (frm σ i).node.toInt = nd ∧ nd < X.N := fun i hi => by
    obtain ⟨v, v', fo⟩ := tp.seg.at i hi
    rw [Nat.zero_add] at fo
    rcases fo.node with g | ⟨nd, g, g', _⟩
    · exact Or.inl g
    · exact Or.inr ⟨nd, g, g'.1⟩
  obtain ⟨-, fd⟩ := performs_12_ok hX r.arr (F := F) (by omega) nodes (x1 := x1) F n (σ.1 44 - 2) 0 (Nat.le_refl _) i44 (by rw [Nat.sub_self]; rfl) (by omega)
  have px := performs_12_x hX r.arr (F := F) (by omega) nodes (x1 := x1) F n (σ.1 44 - 2) 0 (Nat.le_refl _) i44 (by rw [Nat.sub_self]; rfl) (by omega) (fun i h1 h2 => by omega)
  simp only [F_Mo_performs, mbind_eq]
  generalize F_Mo_performs_12 n σ x1 (σ.1 44 - 2) 0 (-1) = fw at *
  obtain ⟨σf, y1, y2, y3, y4⟩ := fw
  obtain ⟨g1, g2, o⟩ := fd
  simp only at g1 g2 o px ⊢
  subst g1 g2
  rcases px with ⟨p1, p2⟩ | ⟨h, nd, qq, hh, p1, p2, p3, p4⟩
  · left
    refine ⟨p2, ?_⟩
    simp only [F_Mo_performs_j84, p1, if_true]
  right
  rcases o with o | ⟨h', many, qq', nd', hh', ho2, ho3, hmany, ho4, hnd, hndN, h8, hq1, hq2, hq3⟩
  · exfalso
    rw [o] at p2
    simp only [i32_neg1] at p2
    omega
  have e1 : h = h' := by omega
  subst e1
  have e2 : qq = qq' := by omega
  subst e2
  have hq : ¬ y4 = -1 := by intro hh; rw [hh] at ho4; simp only [i32_neg1] at ho4; omega
  have hcl := cnt_le (A := X.A) (get := frm σf) (lo := h) (m := F - h)
  have hml : many ≤ 17000 := by omega
  obtain ⟨ar1, ar2, ar3⟩ := pf_ar (a := σf.1 48) (y := y3) (m := many) (by omega) (by omega) ho3 hml
  refine ⟨h, nd, qq, many, hh, p3, p4, hmany, fun hgt => ?_, fun hle => ?_⟩
  · have h1000 := ar2 hgt
    simp only [F_Mo_performs_j84, if_neg hq, if_neg h1000]
  have h1000 := ar1 hle
  simp only [F_Mo_performs_j84, if_neg hq, if_pos h1000]
  have sp : Seg X S (frm σf) 0 (h + (F - h)) v u c' d' w' := by rw [show h + (F - h) = F by omega]; exact tp.seg
  obtain ⟨v1, c1, d1, w1, c2, d2, w2, lower, upper, hcc, _⟩ := sp.split hX
  rw [Nat.zero_add] at upper
  have hc2 := upper.cntx
  have hm1 : c2 = many := by rw [hc2, hmany]
  obtain ⟨ct, dt, ne, en1, en2⟩ := ctd_of (X := X) hnd
  rw [if_pos h8] at ct
  have b8 := upper.bound8 hX (by omega) ne ct
  have b9 := (upper.bound hX).2
  have clq := hX.cl nd' hndN h8 qq hq1 hq2
  have cfq := hX.cf nd' hndN h8
  have i441 : (σf.1 44 - 1).toInt = F := by clear r tp lower upper sp nodes hct; ((try (simp only [vp_in, Int32.toNatClampNeg, Int32.lt_iff_toInt_lt, Int32.le_iff_toInt_le, ← Int32.toInt_inj, Int32.toInt_add, Int32.toInt_sub, Int32.toInt_mul, Int32.reduceToInt, i32_neg1, Nat.reducePow, Int.reducePow, ne_eq, ge_iff_le, gt_iff_lt] at *)) <;> (first | omega | ((simp (disch := omega) only [bm32] at *) <;> omega)))
  have hK2 : K + (F - h) ≤ 42000 := by omega
  simp (decide := true) only [si_1, if_false]
  have kp := (keep_ok (σ := mo_si σf 48 (σf.1 48 + (1 + y3))) (nk := S.nk) (K := K) (h := h) (m := F - h) (by simp [si_1, si_2, sl_1, sl_2, sl_3, ai_1, ai_2, ai_3, ai_4, al_1, al_2, al_3, al_4, cp_1, cp_2, cp_3, cp_4, r.hp.co]) (by omega) (by simp [si_1, si_2, sl_1, sl_2, sl_3, ai_1, ai_2, ai_3, ai_4, al_1, al_2, al_3, al_4, cp_1, cp_2, cp_3, cp_4, r.hp.ke]) hK2 (x1 := y2) (x2 := σf.1 44 - 1) (x3 := y3) ho2 (by omega) (by omega) (n := n) (by omega)).2
  have k60 := keep_60 (σ := mo_si σf 48 (σf.1 48 + (1 + y3))) (nk := S.nk) (K := K) (h := h) (m := F - h) (by simp [si_1, si_2, sl_1, sl_2, sl_3, ai_1, ai_2, ai_3, ai_4, al_1, al_2, al_3, al_4, cp_1, cp_2, cp_3, cp_4, r.hp.co]) (by simp [si_1, si_2, sl_1, sl_2, sl_3, ai_1, ai_2, ai_3, ai_4, al_1, al_2, al_3, al_4, cp_1, cp_2, cp_3, cp_4, r.hp.ke]) hK2 (x1 := y2) (x2 := σf.1 44 - 1) (x3 := y3) ho2 (by omega) (by omega) (n := n) (by omega)
  generalize F_Mo_keep n (mo_si σf 48 (σf.1 48 + (1 + y3))) y2 (σf.1 44 - 1) y3 = σk at *
  have frk : frm σk = frm σf := frm_of (fun j hj => by rw [kp.a j (by omega)]; rfl) (fun j hj => by rw [kp.al j (by omega) (by omega)]; rfl)
  obtain ⟨-, f3⟩ := seeAgain_ok (σ := σk) (F := h) (by omega) (x := y2) ho2 (n := n) (by omega)
  simp only [mbind_eq, f3, cp_1, cp_3, si_2, al_1, al_3]
  have hC := hX.hC
  have Ek : ∀ k, 5 ≤ k → k ≤ 19 → ∀ i, i < bnd X k → σk.2.2.1 k i = X.A k i := fun j h1 h2 i hi => by rw [kp.a j (by omega)]; exact r.arr j h1 h2 i hi
  have e4 : y4.toNatClampNeg = qq := by show y4.toInt.toNat = qq; omega
  simp only [e4, Ek 17 (by omega) (by omega) qq (show qq < X.C by omega), Ek 18 (by omega) (by omega) qq (show qq < X.C by omega), Ek 19 (by omega) (by omega) qq (show qq < X.C by omega)]
  have y17 : (X.A 17 qq).toNatClampNeg = (X.A 17 qq).toInt.toNat := rfl
  have y18 : (X.A 18 qq).toNatClampNeg = (X.A 18 qq).toInt.toNat := rfl
  rw [y17, y18]
  simp (decide := true) only [si_1, if_false, cp_1]
  have k49 : σk.1 49 = σf.1 49 := by rw [kp.f 49 (by omega) (by omega)]; simp [si_1, si_2, sl_1, sl_2, sl_3, ai_1, ai_2, ai_3, ai_4, al_1, al_2, al_3, al_4, cp_1, cp_2, cp_3, cp_4]
  have k61 := kp.f61
  have e17 := nsee_al (σ := mo_si (mo_si (cp σk 53 0 43 (10 * h) 0) 44 y2) 49 (σk.1 49 - (y3 - 1))) (y := (X.A 17 qq).toInt.toNat) (v := σk.2.1) (by omega)
  have e18 := nsee_al (σ := mo_al (mo_si (mo_si (cp σk 53 0 43 (10 * h) 0) 44 y2) 49 (σk.1 49 - (y3 - 1))) 53 (X.A 17 qq).toInt.toNat σk.2.1) (y := (X.A 18 qq).toInt.toNat) (v := (-σk.1 61).toInt64) (by omega)
  have ns : nsee (mo_si (mo_si (cp σk 53 0 43 (10 * h) 0) 44 y2) 49 (σk.1 49 - (y3 - 1))) = (frm σf h).see := by
    show nsee (cp σk 53 0 43 (10 * h) 0) = _
    rw [nsee_cp, frk]
  have kl : σk.2.1 = σf.2.1 := kp.l
  simp only [cp_2]
  generalize hσe : mo_al (mo_al (mo_si (mo_si (cp σk 53 0 43 (10 * h) 0) 44 y2) 49 (σk.1 49 - (y3 - 1))) 53 (X.A 17 qq).toInt.toNat σk.2.1) 53 (X.A 18 qq).toInt.toNat (-σk.1 61).toInt64 = σe at *
  have efe : ∀ k, k ≠ 44 → k ≠ 49 → σe.1 k = σk.1 k := fun k h1 h2 => by rw [← hσe]; simp [si_1, si_2, sl_1, sl_2, sl_3, ai_1, ai_2, ai_3, ai_4, al_1, al_2, al_3, al_4, cp_1, cp_2, cp_3, cp_4, h1, h2]
  have ea : σe.2.2.1 = σk.2.2.1 := by rw [← hσe]; rfl
  have eal : ∀ k, k ≠ 53 → σe.2.2.2 k = σk.2.2.2 k := fun k hk => by rw [← hσe]; funext i; simp [si_1, si_2, sl_1, sl_2, sl_3, ai_1, ai_2, ai_3, ai_4, al_1, al_2, al_3, al_4, cp_1, cp_2, cp_3, cp_4, hk]
  have e44 : σe.1 44 = y2 := by rw [← hσe]; simp [si_1, si_2, sl_1, sl_2, sl_3, ai_1, ai_2, ai_3, ai_4, al_1, al_2, al_3, al_4, cp_1, cp_2, cp_3, cp_4]
  have e49 : σe.1 49 = σk.1 49 - (y3 - 1) := by rw [← hσe]; simp [si_1, si_2, sl_1, sl_2, sl_3, ai_1, ai_2, ai_3, ai_4, al_1, al_2, al_3, al_4, cp_1, cp_2, cp_3, cp_4]
  have fre : frm σe = frm σf := (frm_of (fun j hj => by rw [ea]) (fun j hj => eal j (by omega))).trans frk
  obtain ⟨⟨fr, fm, rw'⟩, hp, c8, c9⟩ := Rw.mark (σ := σe) (σ1 := σe) (F := h) (x := X.A 19 qq) (by omega) (fun _ _ _ => rfl) (by rw [e44]; exact ho2) rfl (fun _ _ => rfl)
  have e3 : y3 = nI many := nI_ofT ho3 (by omega)
  have ek : kfr (F_Mo_workMarked σe (X.A 19 qq)) = kfr σk := (kfr_of (fun k hk => hp.a k (by omega)) (fun k hk => hp.al k (by omega))).trans (kfr_of (fun k hk => by rw [ea]) (fun k hk => eal k (by omega)))
  refine ⟨by have := rw'.f44; omega, ⟨fr, fm, ?_⟩, rw'.f45, rw'.f51, fun hne => ?_, ?_, fun k hk z1 z2 => ?_, ?_, ?_, ?_, ?_, ?_, ?_, fun k hk => ?_, ?_, ?_, fun i => ?_, fun i => ?_, fun i => ?_, fun i => ?_, fun i => ?_⟩
  · rw [rw'.rf]
    congr 1
    exact rfs_c (fun i _ => by rw [fre])
  · rw [rw'.see _ (by omega), e18.2 _ (by omega) hne, e17.1, kl]
  · rw [rw'.see _ (by omega), e18.1]
    exact pf_ng (m := S.nk + 1) (by omega) (by omega)
  · rw [rw'.see k hk, e18.2 k hk z2, e17.2 k hk z1, ns]
  · rw [rw'.f46, efe 46 (by omega) (by omega), kp.f 46 (by omega) (by omega)]; simp [si_1, si_2, sl_1, sl_2, sl_3, ai_1, ai_2, ai_3, ai_4, al_1, al_2, al_3, al_4, cp_1, cp_2, cp_3, cp_4]
  · rw [rw'.f47, efe 47 (by omega) (by omega), kp.f 47 (by omega) (by omega)]; simp [si_1, si_2, sl_1, sl_2, sl_3, ai_1, ai_2, ai_3, ai_4, al_1, al_2, al_3, al_4, cp_1, cp_2, cp_3, cp_4]
  · rw [c8, efe 48 (by omega) (by omega), kp.f 48 (by omega) (by omega)]
    simp only [si_1, if_true]
    exact ar3
  · rw [c9, e49, k49]
    exact pf_dp (by omega) (by omega) ho3 hml
  · rw [hp.f 56 (by omega), efe 56 (by omega) (by omega), kp.f 56 (by omega) (by omega)]; simp [si_1, si_2, sl_1, sl_2, sl_3, ai_1, ai_2, ai_3, ai_4, al_1, al_2, al_3, al_4, cp_1, cp_2, cp_3, cp_4]
  · rw [hp.f 61 (by omega), efe 61 (by omega) (by omega)]; exact k61
  · rw [rw'.tab k hk, ea, kp.a k (by omega)]; rfl
  · rw [hp.a 54 (by omega), ea, kp.a 54 (by omega)]; rfl
  · rw [hp.al 55 (by omega), eal 55 (by omega), kp.al 55 (by omega) (by omega)]; rfl
  · rw [hp.a 57 (by omega), ea, kp.a57 i]; rfl
  · rw [hp.a 58 (by omega), ea, kp.a58 i]; rfl
  · rw [hp.a 59 (by omega), ea, kp.a59 i, e3]; rfl
  · rw [hp.a 60 (by omega), ea, k60 i]; rfl
  · rw [ek, kp.kf i]; rfl
end
