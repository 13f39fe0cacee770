-- pure rows: CN CO CP CQ
section
/-! pure rows, the class: a node is measured and added -/
section
variable {cs : Nat → ClassId} {lim : Nat × Nat} {A : Ad} {M : gMem} {N C F : Nat} {nd cd : Nat → Nat → Int32}
/-- what the told nodes measure -/
def NdB (N : Nat) (nd : Nat → Nat → Int32) : Prop := ∀ i, i < N → (1 ≤ (nd i 9).toInt ∧ (nd i 9).toInt ≤ 100000) ∧ 1 ≤ (nd i 10).toInt ∧ (nd i 10).toInt ≤ i + 1
/-- node a is none of the told ones -/
def Apart (A : Ad) (M : gMem) (N a : Nat) : Prop := ∀ i, i < N → aQ M A.nn i ≠ some a
theorem NsIs.putNode (L : Lay cs A M) (h : NsIs A M N C F nd cd) {a k : Nat} {x : Int32} (ho : cOk 4 M a) (ha : Apart A M N a) : NsIs A (cP 4 M a k (.int x)) N C F nd cd ∧ Apart A (cP 4 M a k (.int x)) N a := by
  have o3 : A.ns ≠ a := fun q => by have := (q ▸ L.ns_0.1 : cOk 3 M a).uniq ho; omega
  have on : A.nn ≠ a := fun q => ho.notQ (q ▸ L.nn.1)
  have oc : A.cl ≠ a := fun q => ho.notQ (q ▸ L.cl.1)
  have e1 : aQ (cP 4 M a k (.int x)) A.nn = aQ M A.nn := aQ_cong (by unfold cP; exact gup_n on)
  have e2 : aQ (cP 4 M a k (.int x)) A.cl = aQ M A.cl := aQ_cong (by unfold cP; exact gup_n oc)
  refine ⟨⟨by rw [cI_put_ne (Or.inl o3)]; exact h.n, h.hn, by rw [cI_put_ne (Or.inl o3)]; exact h.c, h.hc, by rw [cI_put_ne (Or.inl o3)]; exact h.f, h.hf, fun i hi => ?_, fun j hj => ?_⟩, fun i hi => by rw [e1]; exact ha i hi⟩
  · obtain ⟨b, q1, q2⟩ := h.nds i hi
    exact ⟨b, by rw [e1]; exact q1, q2.other (fun q => ha i hi (q ▸ q1))⟩
  · obtain ⟨b, q1, q2⟩ := h.cls j hj
    have hb : b ≠ a := fun q => by have := (q ▸ q2.1 : cOk 5 M a).uniq ho; omega
    exact ⟨b, by rw [e2]; exact q1, (cOk_cong (by unfold cP; exact gup_n hb)).mpr q2.1, fun k' hk' => by rw [cI_put_ne (Or.inl hb)]; exact q2.2 k' hk'⟩
/-- sizes and levels with one part more -/
def ms (nd : Nat → Nat → Int32) (m : Int × Int) (p : Int32) : Int × Int := if p = -1 then m else (min 100000 (m.1 + (nd p.toInt.toNat 9).toInt), max m.2 ((nd p.toInt.toNat 10).toInt + 1))
/-- node a in the making: its fields but size and levels are v's, these are m -/
def Mk (M : gMem) (a : Nat) (v : Nat → Int32) (m : Int × Int) : Prop := cOk 4 M a ∧ (∀ k, k < 9 → cI M a k = v k) ∧ (cI M a 9).toInt = m.1 ∧ (cI M a 10).toInt = m.2 ∧ (1 ≤ m.1 ∧ m.1 ≤ 100000) ∧ 1 ≤ m.2 ∧ m.2 ≤ 201
theorem ms_b {m : Int × Int} (hb : NdB N nd) (hN : N ≤ 200) (h : (1 ≤ m.1 ∧ m.1 ≤ 100000) ∧ 1 ≤ m.2 ∧ m.2 ≤ 201) {p : Int32} (hp : Pn N p) : (1 ≤ (ms nd m p).1 ∧ (ms nd m p).1 ≤ 100000) ∧ 1 ≤ (ms nd m p).2 ∧ (ms nd m p).2 ≤ 201 := by
  unfold ms
  split
  · exact h
  · rcases hp with q | ⟨q1, q2⟩
    · contradiction
    · have := hb p.toInt.toNat (by omega)
      dsimp only
      omega
theorem ns_measure (L : Lay cs A M) (h : NsIs A M N C F nd cd) (hb : NdB N nd) {a : Nat} {v : Nat → Int32} {m : Int × Int} (hm : Mk M a v m) (ha : Apart A M N a) {p : Int32} (hp : Pn N p) :
    S_Ns_measure cs lim M A.ns (some a) p ∧ Mk (F_Ns_measure cs M A.ns (some a) p) a v (ms nd m p) ∧ NsIs A (F_Ns_measure cs M A.ns (some a) p) N C F nd cd ∧ Apart A (F_Ns_measure cs M A.ns (some a) p) N a ∧ Ext [(4, 9), (4, 10)] [] false M (F_Ns_measure cs M A.ns (some a) p) := by
  have hms := ms_b (nd := nd) hb h.hn hm.2.2.2.2 hp
  have key : S_Ns_measure cs lim M A.ns (some a) p ∧ Mk (F_Ns_measure cs M A.ns (some a) p) a v (ms nd m p) ∧ NsIs A (F_Ns_measure cs M A.ns (some a) p) N C F nd cd ∧ Apart A (F_Ns_measure cs M A.ns (some a) p) N a := by
    obtain ⟨m0, m1, m2, m3, m4⟩ := hm
    unfold S_Ns_measure F_Ns_measure ms
    unfold ms at hms
    by_cases h1 : p = -1
    · simp only [if_pos h1] at hms ⊢
      exact ⟨trivial, ⟨m0, m1, m2, m3, m4⟩, h, ha⟩
    · simp only [if_neg h1] at hms ⊢
      rcases hp with q | ⟨q1, q2⟩
      · contradiction
      · have hN := h.hn
        have hpi : p.toInt = (p.toInt.toNat : Nat) := by omega
        have hpl : p.toInt.toNat < N := by omega
        have hbp := hb _ hpl
        generalize hi : p.toInt.toNat = i at hpi hpl hbp hms ⊢
        obtain ⟨s1, b, f1, f2, f3⟩ := ns_at (lim := lim) L h hpi hpl
        have hba : b ≠ a := fun q => ha i hpl (q ▸ f2)
        simp only [mbind_eq, f1, Option.getD_some]
        have e9 : cI M b 9 = nd i 9 := f3.2 9 (by decide)
        have e10 : cI M b 10 = nd i 10 := f3.2 10 (by decide)
        rw [e9]
        have hw : ∃ w : Int32, (if cI M a 9 + nd i 9 < 100000 then cI M a 9 + nd i 9 else 100000 : Int32) = w ∧ w.toInt = min 100000 (m.1 + (nd i 9).toInt) := by
          by_cases q : cI M a 9 + nd i 9 < 100000
          · exact ⟨_, if_pos q, by ((try (simp only [vp_in, Int32.toNatClampNeg, Int32.lt_iff_toInt_lt, Int32.le_iff_toInt_le, ← Int32.toInt_inj, Int32.toInt_add, Int32.toInt_sub, Int32.toInt_mul, Int32.reduceToInt, i32_neg1, Nat.reducePow, Int.reducePow, ne_eq, ge_iff_le, gt_iff_lt] at *)) <;> (first | omega | ((simp (disch := omega) only [bm32] at *) <;> omega)))⟩
          · exact ⟨_, if_neg q, by ((try (simp only [vp_in, Int32.toNatClampNeg, Int32.lt_iff_toInt_lt, Int32.le_iff_toInt_le, ← Int32.toInt_inj, Int32.toInt_add, Int32.toInt_sub, Int32.toInt_mul, Int32.reduceToInt, i32_neg1, Nat.reducePow, Int.reducePow, ne_eq, ge_iff_le, gt_iff_lt] at *)) <;> (first | omega | ((simp (disch := omega) only [bm32] at *) <;> omega)))⟩
        obtain ⟨w, ew, vw⟩ := hw
        rw [ew]
        obtain ⟨N1, A1⟩ := h.putNode L (k := 9) (x := w) m0 ha
        have o1 : cOk 4 (cP 4 M a 9 (.int w)) a := cOk_putI (by decide) m0 m0
        have L1 : Lay cs A (cP 4 M a 9 (.int w)) := L.ext (W := [(4, 9)]) (V := []) (al := false) ((Ext.rf L.mok).putI 9 m0 (by decide) (by decide)) (by decide)
        obtain ⟨s2, b2, g1, g2, g3⟩ := ns_at (lim := lim) L1 N1 hpi hpl
        have hb2 : b2 = b := by
          have : aQ (cP 4 M a 9 (.int w)) A.nn = aQ M A.nn := aQ_cong (by unfold cP; exact gup_n (fun q => m0.notQ (q ▸ L.nn.1)))
          rw [this, f2] at g2
          exact (Option.some.inj g2).symm
        subst hb2
        simp only [g1, Option.getD_some]
        have e10' : cI (cP 4 M a 9 (.int w)) b2 10 = nd i 10 := g3.2 10 (by decide)
        have d10' : cI (cP 4 M a 9 (.int w)) a 10 = cI M a 10 := cI_put_ne (Or.inr (by decide))
        rw [e10', d10']
        have hz : ∃ z : Int32, (if cI M a 10 < 1 + nd i 10 then 1 + nd i 10 else cI M a 10 : Int32) = z ∧ z.toInt = max m.2 ((nd i 10).toInt + 1) := by
          by_cases q : cI M a 10 < 1 + nd i 10
          · exact ⟨_, if_pos q, by ((try (simp only [vp_in, Int32.toNatClampNeg, Int32.lt_iff_toInt_lt, Int32.le_iff_toInt_le, ← Int32.toInt_inj, Int32.toInt_add, Int32.toInt_sub, Int32.toInt_mul, Int32.reduceToInt, i32_neg1, Nat.reducePow, Int.reducePow, ne_eq, ge_iff_le, gt_iff_lt] at *)) <;> (first | omega | ((simp (disch := omega) only [bm32] at *) <;> omega)))⟩
          · exact ⟨_, if_neg q, by ((try (simp only [vp_in, Int32.toNatClampNeg, Int32.lt_iff_toInt_lt, Int32.le_iff_toInt_le, ← Int32.toInt_inj, Int32.toInt_add, Int32.toInt_sub, Int32.toInt_mul, Int32.reduceToInt, i32_neg1, Nat.reducePow, Int.reducePow, ne_eq, ge_iff_le, gt_iff_lt] at *)) <;> (first | omega | ((simp (disch := omega) only [bm32] at *) <;> omega)))⟩
        obtain ⟨z, ez, vz⟩ := hz
        rw [ez]
        obtain ⟨N2, A2⟩ := N1.putNode L1 (k := 10) (x := z) o1 A1
        refine ⟨⟨⟨a, rfl, m0⟩, L.ns_0.1, s1, ⟨b2, rfl, f3.1⟩, ⟨a, rfl, m0⟩, ⟨a, rfl, o1⟩, L1.ns_0.1, s2, ⟨b2, rfl, g3.1⟩, ⟨a, rfl, o1⟩, trivial⟩, ⟨cOk_putI (by decide) o1 o1, fun k hk => ?_, ?_, ?_, hms⟩, N2, A2⟩
        · rw [cI_put_ne (Or.inr (by omega)), cI_put_ne (Or.inr (by omega))]; exact m1 k hk
        · rw [cI_put_ne (Or.inr (by decide)), cI_put m0 (by decide)]; exact vw
        · rw [cI_put o1 (by decide)]; exact vz
  exact ⟨key.1, key.2.1, key.2.2.1, key.2.2.2, x_Ns_measure cs lim M A.ns (some a) p L.mok key.1⟩
end
end
section
/-! pure rows, the class: a node is added -/
/-- the bodies of clauses f, f + 1, .., f + n - 1 -/
def bodies (cd : Nat → Nat → Int32) (f : Nat) : Nat → List Int32
  | 0 => []
  | n + 1 => cd f 3 :: bodies cd (f + 1) n
section
variable {cs : Nat → ClassId} {lim : Nat × Nat} {A : Ad} {M : gMem} {N C F : Nat} {nd cd : Nat → Nat → Int32}
def Added (cs : Nat → ClassId) (A : Ad) (M' : gMem) (N C F : Nat) (nd cd : Nat → Nat → Int32) (v : Nat → Int32) (m : Int × Int) : Prop := (∃ nd', NsIs A M' (N + 1) C F nd' cd ∧ (∀ i, i < N → nd' i = nd i) ∧ (∀ k, k < 9 → nd' N k = v k) ∧ (nd' N 9).toInt = m.1 ∧ (nd' N 10).toInt = m.2)
theorem Added.is {cs : Nat → ClassId} {A : Ad} {M' : gMem} {N C F : Nat} {nd cd : Nat → Nat → Int32} {v : Nat → Int32} {m : Int × Int} (self : Added cs A M' N C F nd cd v m) : ∃ nd', NsIs A M' (N + 1) C F nd' cd ∧ (∀ i, i < N → nd' i = nd i) ∧ (∀ k, k < 9 → nd' N k = v k) ∧ (nd' N 9).toInt = m.1 ∧ (nd' N 10).toInt = m.2 := self
theorem ns_put (L : Lay cs A M) (h : NsIs A M N C F nd cd) {a : Nat} {v : Nat → Int32} {m : Int × Int} (hm : Mk M a v m) (hN : N < 200) : Added cs A (cP 3 (aPq (cs 3) M A.nn (cI M A.ns 4).toNatClampNeg (some a)) A.ns 4 (.int (cI (aPq (cs 3) M A.nn (cI M A.ns 4).toNatClampNeg (some a)) A.ns 4 + 1))) N C F nd cd v m ∧
    (cI (cP 3 (aPq (cs 3) M A.nn (cI M A.ns 4).toNatClampNeg (some a)) A.ns 4 (.int (cI (aPq (cs 3) M A.nn (cI M A.ns 4).toNatClampNeg (some a)) A.ns 4 + 1))) A.ns 4 - 1).toInt = N := by
  have hn := h.n
  have hc : (cI M A.ns 4).toNatClampNeg = N := by ((try (simp only [vp_in, Int32.toNatClampNeg, Int32.lt_iff_toInt_lt, Int32.le_iff_toInt_le, ← Int32.toInt_inj, Int32.toInt_add, Int32.toInt_sub, Int32.toInt_mul, Int32.reduceToInt, i32_neg1, Nat.reducePow, Int.reducePow, ne_eq, ge_iff_le, gt_iff_lt] at *)) <;> (first | omega | ((simp (disch := omega) only [bm32] at *) <;> omega)))
  rw [hc]
  have on : A.ns ≠ A.nn := fun q => L.ns_0.1.notQ (q ▸ L.nn.1)
  have onc : A.cl ≠ A.nn := fun q => by
    have h1 := L.nn.2
    have h2 := L.cl.2
    rw [q] at h2
    omega
  have ons : A.cl ≠ A.ns := fun q => L.ns_0.1.notQ (q ▸ L.cl.1)
  have oa : ∀ {ci b}, cOk ci M b → b ≠ A.nn := fun hb q => hb.notQ (q ▸ L.nn.1)
  generalize hM1 : aPq (cs 3) M A.nn N (some a) = M1
  have m1 : ∀ b, b ≠ A.nn → M1.1 b = M.1 b := fun b hb => by rw [← hM1]; unfold aPq; exact gup_n hb
  have m1n : M1.1 A.nn = some (1, .inl (cs 3, 200, .inr (.inr (.inr (.inr (va_up (aQ M A.nn) N (some a))))))) := by rw [← hM1]; unfold aPq; rw [gup_s, L.nn.2]
  have o3 : cOk 3 M1 A.ns := (cOk_cong (m1 _ on)).mpr L.ns_0.1
  have e4 : cI M1 A.ns 4 = cI M A.ns 4 := cI_cong (m1 _ on)
  rw [e4]
  generalize hM2 : cP 3 M1 A.ns 4 (.int (cI M A.ns 4 + 1)) = M2
  have m2 : ∀ b, b ≠ A.ns → M2.1 b = M1.1 b := fun b hb => by rw [← hM2]; unfold cP; exact gup_n hb
  have c4 : cI M2 A.ns 4 = cI M A.ns 4 + 1 := by rw [← hM2]; exact cI_put o3 (by decide)
  have c5 : ∀ k, k ≠ 4 → cI M2 A.ns k = cI M A.ns k := fun k hk => by rw [← hM2, cI_put_ne (Or.inr hk)]; exact cI_cong (m1 _ on)
  have q2 : aQ M2 A.nn = va_up (aQ M A.nn) N (some a) := by rw [aQ_cong (m2 _ (Ne.symm on))]; exact (aQ_of m1n).2
  have q3 : aQ M2 A.cl = aQ M A.cl := by rw [aQ_cong (m2 _ ons), aQ_cong (m1 _ onc)]
  have same : ∀ {ci b}, ci ≠ 3 → cOk ci M b → M2.1 b = M.1 b := fun {ci b} hci hb => by
    rw [m2 b (fun q => hci ((q ▸ hb : cOk ci M A.ns).uniq L.ns_0.1)), m1 b (oa hb)]
  obtain ⟨p0, p1, p2, p3, p4⟩ := hm
  refine ⟨⟨fun i => if i = N then (fun k => cI M a k) else nd i, ⟨by rw [c4]; ((try (simp only [vp_in, Int32.toNatClampNeg, Int32.lt_iff_toInt_lt, Int32.le_iff_toInt_le, ← Int32.toInt_inj, Int32.toInt_add, Int32.toInt_sub, Int32.toInt_mul, Int32.reduceToInt, i32_neg1, Nat.reducePow, Int.reducePow, ne_eq, ge_iff_le, gt_iff_lt] at *)) <;> (first | omega | ((simp (disch := omega) only [bm32] at *) <;> omega))), by omega, by rw [c5 5 (by decide)]; exact h.c, h.hc, by rw [c5 6 (by decide)]; exact h.f, h.hf, fun i hi => ?_, fun j hj => ?_⟩, fun i hi => by dsimp only; rw [if_neg (by omega)], fun k hk => by dsimp only; rw [if_pos rfl]; exact p1 k hk, by dsimp only; rw [if_pos rfl]; exact p2, by dsimp only; rw [if_pos rfl]; exact p3⟩, by rw [c4]; ((try (simp only [vp_in, Int32.toNatClampNeg, Int32.lt_iff_toInt_lt, Int32.le_iff_toInt_le, ← Int32.toInt_inj, Int32.toInt_add, Int32.toInt_sub, Int32.toInt_mul, Int32.reduceToInt, i32_neg1, Nat.reducePow, Int.reducePow, ne_eq, ge_iff_le, gt_iff_lt] at *)) <;> (first | omega | ((simp (disch := omega) only [bm32] at *) <;> omega)))⟩
  · rw [q2]
    unfold va_up
    dsimp only
    by_cases hi2 : i = N
    · rw [if_pos hi2, if_pos hi2]
      exact ⟨a, rfl, (cOk_cong (same (by decide) p0)).mpr p0, fun k _ => cI_cong (same (by decide) p0)⟩
    · rw [if_neg hi2, if_neg hi2]
      obtain ⟨b, z1, z2⟩ := h.nds i (by omega)
      exact ⟨b, z1, (cOk_cong (same (by decide) z2.1)).mpr z2.1, fun k hk => (cI_cong (same (by decide) z2.1)).trans (z2.2 k hk)⟩
  · obtain ⟨b, z1, z2⟩ := h.cls j hj
    exact ⟨b, by rw [q3]; exact z1, (cOk_cong (same (by decide) z2.1)).mpr z2.1, fun k hk => (cI_cong (same (by decide) z2.1)).trans (z2.2 k hk)⟩
theorem ns_add_41 {v : Nat → Int32} {a t : Nat} (hv8 : (v 8).toInt = t) (ht : t ≤ C) (hN : N < 200) (hb : NdB N nd) (hbod : ∀ j, j < t → Pn N (cd j 3)) : ∀ (d j : Nat) (x : Int32) (n : Nat) (M : gMem) (m : Int × Int), t - j = d → j ≤ t → x.toInt = j → d < n → Lay cs A M → NsIs A M N C F nd cd → Mk M a v m → Apart A M N a →
    S_Ns_add_41 cs lim n M A.ns (some a) x ∧ (F_Ns_add_41 cs n M A.ns (some a) x).1.toInt = N ∧ Added cs A (F_Ns_add_41 cs n M A.ns (some a) x).2 N C F nd cd v ((bodies cd j d).foldl (ms nd) m) := by
  intro d
  induction d with
  | zero =>
    intro j x n M m hd hj hx hn L h hm ha
    obtain ⟨n, rfl⟩ : ∃ k, n = k + 1 := ⟨n - 1, by omega⟩
    have hc := h.hc
    have h8 : cI M a 8 = v 8 := hm.2.1 8 (by decide)
    have hle : cI M a 8 ≤ x := by rw [h8]; ((try (simp only [vp_in, Int32.toNatClampNeg, Int32.lt_iff_toInt_lt, Int32.le_iff_toInt_le, ← Int32.toInt_inj, Int32.toInt_add, Int32.toInt_sub, Int32.toInt_mul, Int32.reduceToInt, i32_neg1, Nat.reducePow, Int.reducePow, ne_eq, ge_iff_le, gt_iff_lt] at *)) <;> (first | omega | ((simp (disch := omega) only [bm32] at *) <;> omega)))
    have hn4 := h.n
    have r := ns_put (cs := cs) L h hm hN
    simp only [S_Ns_add_41, F_Ns_add_41, Option.getD_some, if_pos hle, L.ns_0.2, bodies, List.foldl_nil]
    have o1 : cOk 3 (aPq (cs 3) M A.nn (cI M A.ns 4).toNatClampNeg (some a)) A.ns := (cOk_cong (by unfold aPq; exact gup_n (fun q => L.ns_0.1.notQ (q ▸ L.nn.1)))).mpr L.ns_0.1
    refine ⟨⟨⟨a, rfl, hm.1⟩, L.ns_0.1, L.ns_0.1, ⟨trivial, L.nn.1⟩, by rw [L.nn.2]; ((try (simp only [vp_in, Int32.toNatClampNeg, Int32.lt_iff_toInt_lt, Int32.le_iff_toInt_le, ← Int32.toInt_inj, Int32.toInt_add, Int32.toInt_sub, Int32.toInt_mul, Int32.reduceToInt, i32_neg1, Nat.reducePow, Int.reducePow, ne_eq, ge_iff_le, gt_iff_lt] at *)) <;> (first | omega | ((simp (disch := omega) only [bm32] at *) <;> omega))), Or.inr ⟨a, rfl, hm.1⟩, o1, o1, cOk_putI (by decide) o1 o1, trivial⟩, r.2, r.1⟩
  | succ d ih =>
    intro j x n M m hd hj hx hn L h hm ha
    obtain ⟨n, rfl⟩ : ∃ k, n = k + 1 := ⟨n - 1, by omega⟩
    have hc := h.hc
    have h8 : cI M a 8 = v 8 := hm.2.1 8 (by decide)
    have hle : ¬ cI M a 8 ≤ x := by rw [h8]; ((try (simp only [vp_in, Int32.toNatClampNeg, Int32.lt_iff_toInt_lt, Int32.le_iff_toInt_le, ← Int32.toInt_inj, Int32.toInt_add, Int32.toInt_sub, Int32.toInt_mul, Int32.reduceToInt, i32_neg1, Nat.reducePow, Int.reducePow, ne_eq, ge_iff_le, gt_iff_lt] at *)) <;> (first | omega | ((simp (disch := omega) only [bm32] at *) <;> omega)))
    obtain ⟨s1, b, f1, f2, f3⟩ := ns_clauseAt (lim := lim) L h hx (by omega)
    have e3 : cI M b 3 = cd j 3 := f3.2 3 (by decide)
    simp only [S_Ns_add_41, F_Ns_add_41, Option.getD_some, if_neg hle, mbind_eq, f1, e3, bodies, List.foldl_cons]
    obtain ⟨s2, g1, g2, g3, g4⟩ := ns_measure (lim := lim) L h hb hm ha (hbod j (by omega))
    generalize F_Ns_measure cs M A.ns (some a) (cd j 3) = M1 at g1 g2 g3 g4 ⊢
    have L1 := L.ext g4 (by decide)
    have r := ih (j + 1) (x + 1) n M1 (ms nd m (cd j 3)) (by omega) (by omega) (by ((try (simp only [vp_in, Int32.toNatClampNeg, Int32.lt_iff_toInt_lt, Int32.le_iff_toInt_le, ← Int32.toInt_inj, Int32.toInt_add, Int32.toInt_sub, Int32.toInt_mul, Int32.reduceToInt, i32_neg1, Nat.reducePow, Int.reducePow, ne_eq, ge_iff_le, gt_iff_lt] at *)) <;> (first | omega | ((simp (disch := omega) only [bm32] at *) <;> omega)))) (by omega) L1 g2 g1 g3
    exact ⟨⟨⟨a, rfl, hm.1⟩, L.ns_0.1, s1, ⟨b, rfl, f3.1⟩, L.ns_0.1, s2, r.1⟩, r.2⟩
theorem ns_add (L : Lay cs A M) (h : NsIs A M N C F nd cd) (hb : NdB N nd) (hN : N < 200) {a : Nat} {v : Nat → Int32} {m : Int × Int} (hm : Mk M a v m) (ha : Apart A M N a) (h4 : Pn N (v 4)) (h5 : Pn N (v 5)) (h6 : Pn N (v 6)) {f t : Nat} (h7 : (v 7).toInt = f) (h8 : (v 8).toInt = t) (hft : f ≤ t) (ht : t ≤ C) (hbod : ∀ j, j < t → Pn N (cd j 3)) {n : Nat} (hn : 50 ≤ n) :
    S_Ns_add cs lim n M A.ns (some a) ∧ (F_Ns_add cs n M A.ns (some a)).1.toInt = N ∧ Added cs A (F_Ns_add cs n M A.ns (some a)).2 N C F nd cd v ((bodies cd f (t - f)).foldl (ms nd) (ms nd (ms nd (ms nd m (v 4)) (v 5)) (v 6))) := by
  have hn4 := h.n
  have hc := h.hc
  have hr : ¬ 200 ≤ cI M A.ns 4 := by ((try (simp only [vp_in, Int32.toNatClampNeg, Int32.lt_iff_toInt_lt, Int32.le_iff_toInt_le, ← Int32.toInt_inj, Int32.toInt_add, Int32.toInt_sub, Int32.toInt_mul, Int32.reduceToInt, i32_neg1, Nat.reducePow, Int.reducePow, ne_eq, ge_iff_le, gt_iff_lt] at *)) <;> (first | omega | ((simp (disch := omega) only [bm32] at *) <;> omega)))
  unfold S_Ns_add F_Ns_add S_Ns_hasRoom F_Ns_hasRoom
  simp only [mbind_eq, if_neg hr, if_neg (show ¬ (1 : Int32) = 0 by decide), Option.getD_some]
  rw [hm.2.1 4 (by decide)]
  obtain ⟨s1, g1, g2, g3, g4⟩ := ns_measure (lim := lim) L h hb hm ha h4
  generalize F_Ns_measure cs M A.ns (some a) (v 4) = M1 at g1 g2 g3 g4 ⊢
  have L1 := L.ext g4 (by decide)
  rw [g1.2.1 5 (by decide)]
  obtain ⟨s2, k1, k2, k3, k4⟩ := ns_measure (lim := lim) L1 g2 hb g1 g3 h5
  generalize F_Ns_measure cs M1 A.ns (some a) (v 5) = M2 at k1 k2 k3 k4 ⊢
  have L2 := L1.ext k4 (by decide)
  rw [k1.2.1 6 (by decide)]
  obtain ⟨s3, l1, l2, l3, l4⟩ := ns_measure (lim := lim) L2 k2 hb k1 k3 h6
  generalize F_Ns_measure cs M2 A.ns (some a) (v 6) = M3 at l1 l2 l3 l4 ⊢
  have L3 := L2.ext l4 (by decide)
  rw [l1.2.1 7 (by decide)]
  have r := ns_add_41 (cs := cs) (lim := lim) (A := A) (F := F) (v := v) (a := a) h8 ht hN hb hbod (t - f) f (v 7) n M3 _ rfl hft h7 (by omega) L3 l2 l1 l3
  exact ⟨⟨L.ns_0.1, ⟨L.ns_0.1, trivial⟩, ⟨a, rfl, hm.1⟩, L.ns_0.1, s1, ⟨a, rfl, g1.1⟩, L1.ns_0.1, s2, ⟨a, rfl, k1.1⟩, L2.ns_0.1, s3, ⟨a, rfl, l1.1⟩, r.1⟩, r.2⟩
end
end
section
/-! pure rows, the class: what the calls ask for; a new node -/
section
variable {cs : Nat → ClassId} {lim : Nat × Nat} {A : Ad} {M : gMem} {N C F : Nat} {nd cd : Nat → Nat → Int32}
theorem n_name (hl : M.2.1 + 1 ≤ lim.1 ∧ M.2.2 + 6 ≤ lim.2) (x : Int32) : S_N_needName cs lim M x ∧ F_N_needName cs M x = @ite _ (Nm x) (dNm x) 0 1 := by
  unfold S_N_needName F_N_needName
  by_cases h1 : x < 0
  · simp only [if_pos h1]
    rw [if_neg (by unfold Nm; ((try (simp only [vp_in, Int32.toNatClampNeg, Int32.lt_iff_toInt_lt, Int32.le_iff_toInt_le, ← Int32.toInt_inj, Int32.toInt_add, Int32.toInt_sub, Int32.toInt_mul, Int32.reduceToInt, i32_neg1, Nat.reducePow, Int.reducePow, ne_eq, ge_iff_le, gt_iff_lt] at *)) <;> (first | omega | ((simp (disch := omega) only [bm32] at *) <;> omega))))]
    exact ⟨⟨hl, trivial⟩, rfl⟩
  · simp only [if_neg h1]
    by_cases h2 : x < 10
    · simp only [if_pos h2]
      rw [if_pos (by unfold Nm; ((try (simp only [vp_in, Int32.toNatClampNeg, Int32.lt_iff_toInt_lt, Int32.le_iff_toInt_le, ← Int32.toInt_inj, Int32.toInt_add, Int32.toInt_sub, Int32.toInt_mul, Int32.reduceToInt, i32_neg1, Nat.reducePow, Int.reducePow, ne_eq, ge_iff_le, gt_iff_lt] at *)) <;> (first | omega | ((simp (disch := omega) only [bm32] at *) <;> omega))))]
      exact ⟨trivial, rfl⟩
    · simp only [if_neg h2]
      rw [if_neg (by unfold Nm; ((try (simp only [vp_in, Int32.toNatClampNeg, Int32.lt_iff_toInt_lt, Int32.le_iff_toInt_le, ← Int32.toInt_inj, Int32.toInt_add, Int32.toInt_sub, Int32.toInt_mul, Int32.reduceToInt, i32_neg1, Nat.reducePow, Int.reducePow, ne_eq, ge_iff_le, gt_iff_lt] at *)) <;> (first | omega | ((simp (disch := omega) only [bm32] at *) <;> omega))))]
      exact ⟨⟨hl, trivial⟩, rfl⟩
theorem n_effect (hl : M.2.1 + 1 ≤ lim.1 ∧ M.2.2 + 6 ≤ lim.2) (x : Int32) : S_N_needEffect cs lim M x ∧ F_N_needEffect cs M x = @ite _ (Is 8 x) (dIs 8 x) 0 1 := by
  unfold S_N_needEffect F_N_needEffect
  by_cases h1 : x < 0
  · simp only [if_pos h1]
    rw [if_neg (by unfold Is; ((try (simp only [vp_in, Int32.toNatClampNeg, Int32.lt_iff_toInt_lt, Int32.le_iff_toInt_le, ← Int32.toInt_inj, Int32.toInt_add, Int32.toInt_sub, Int32.toInt_mul, Int32.reduceToInt, i32_neg1, Nat.reducePow, Int.reducePow, ne_eq, ge_iff_le, gt_iff_lt] at *)) <;> (first | omega | ((simp (disch := omega) only [bm32] at *) <;> omega))))]
    exact ⟨⟨hl, trivial⟩, rfl⟩
  · simp only [if_neg h1]
    by_cases h2 : x < 8
    · simp only [if_pos h2]
      rw [if_pos (by unfold Is; ((try (simp only [vp_in, Int32.toNatClampNeg, Int32.lt_iff_toInt_lt, Int32.le_iff_toInt_le, ← Int32.toInt_inj, Int32.toInt_add, Int32.toInt_sub, Int32.toInt_mul, Int32.reduceToInt, i32_neg1, Nat.reducePow, Int.reducePow, ne_eq, ge_iff_le, gt_iff_lt] at *)) <;> (first | omega | ((simp (disch := omega) only [bm32] at *) <;> omega))))]
      exact ⟨trivial, rfl⟩
    · simp only [if_neg h2]
      rw [if_neg (by unfold Is; ((try (simp only [vp_in, Int32.toNatClampNeg, Int32.lt_iff_toInt_lt, Int32.le_iff_toInt_le, ← Int32.toInt_inj, Int32.toInt_add, Int32.toInt_sub, Int32.toInt_mul, Int32.reduceToInt, i32_neg1, Nat.reducePow, Int.reducePow, ne_eq, ge_iff_le, gt_iff_lt] at *)) <;> (first | omega | ((simp (disch := omega) only [bm32] at *) <;> omega))))]
      exact ⟨⟨hl, trivial⟩, rfl⟩
theorem n_row (hl : M.2.1 + 1 ≤ lim.1 ∧ M.2.2 + 6 ≤ lim.2) (x : Int32) : S_N_needRow cs lim M x ∧ F_N_needRow cs M x = @ite _ (Is 256 x) (dIs 256 x) 0 1 := by
  unfold S_N_needRow F_N_needRow
  by_cases h1 : x < 0
  · simp only [if_pos h1]
    rw [if_neg (by unfold Is; ((try (simp only [vp_in, Int32.toNatClampNeg, Int32.lt_iff_toInt_lt, Int32.le_iff_toInt_le, ← Int32.toInt_inj, Int32.toInt_add, Int32.toInt_sub, Int32.toInt_mul, Int32.reduceToInt, i32_neg1, Nat.reducePow, Int.reducePow, ne_eq, ge_iff_le, gt_iff_lt] at *)) <;> (first | omega | ((simp (disch := omega) only [bm32] at *) <;> omega))))]
    exact ⟨⟨hl, trivial⟩, rfl⟩
  · simp only [if_neg h1]
    by_cases h2 : x ≤ 255
    · simp only [if_pos h2]
      rw [if_pos (by unfold Is; ((try (simp only [vp_in, Int32.toNatClampNeg, Int32.lt_iff_toInt_lt, Int32.le_iff_toInt_le, ← Int32.toInt_inj, Int32.toInt_add, Int32.toInt_sub, Int32.toInt_mul, Int32.reduceToInt, i32_neg1, Nat.reducePow, Int.reducePow, ne_eq, ge_iff_le, gt_iff_lt] at *)) <;> (first | omega | ((simp (disch := omega) only [bm32] at *) <;> omega))))]
      exact ⟨trivial, rfl⟩
    · simp only [if_neg h2]
      rw [if_neg (by unfold Is; ((try (simp only [vp_in, Int32.toNatClampNeg, Int32.lt_iff_toInt_lt, Int32.le_iff_toInt_le, ← Int32.toInt_inj, Int32.toInt_add, Int32.toInt_sub, Int32.toInt_mul, Int32.reduceToInt, i32_neg1, Nat.reducePow, Int.reducePow, ne_eq, ge_iff_le, gt_iff_lt] at *)) <;> (first | omega | ((simp (disch := omega) only [bm32] at *) <;> omega))))]
      exact ⟨⟨hl, trivial⟩, rfl⟩
theorem n_node (L : Lay cs A M) (h : NsIs A M N C F nd cd) (hl : M.2.1 + 1 ≤ lim.1 ∧ M.2.2 + 6 ≤ lim.2) (x : Int32) : S_N_needNode cs lim M A.x x ∧ F_N_needNode cs M A.x x = @ite _ (Is N x) (dIs N x) 0 1 := by
  obtain ⟨s, v⟩ := ns_has (lim := lim) L h x
  unfold S_N_needNode F_N_needNode
  simp only [L.x_ns.2, Option.getD_some, mbind_eq, v]
  by_cases hx : Is N x
  · have hx' : 0 ≤ x.toInt ∧ x.toInt < N := hx
    simp only [if_pos hx, if_pos hx', if_neg (show ¬ (1 : Int32) = 0 by decide)]
    exact ⟨⟨L.x_ns.1, ⟨_, rfl, L.ns_0.1⟩, s, trivial⟩, trivial⟩
  · have hx' : ¬ (0 ≤ x.toInt ∧ x.toInt < N) := hx
    simp only [if_neg hx, if_neg hx', if_pos]
    exact ⟨⟨L.x_ns.1, ⟨_, rfl, L.ns_0.1⟩, s, hl, trivial⟩, trivial⟩
theorem n_room (L : Lay cs A M) (h : NsIs A M N C F nd cd) (hl : M.2.1 + 1 ≤ lim.1 ∧ M.2.2 + 6 ≤ lim.2) : S_N_needRoom cs lim M A.x ∧ F_N_needRoom cs M A.x = if N < 200 then 0 else 2 := by
  have hn := h.n
  have hN := h.hn
  unfold S_N_needRoom F_N_needRoom S_Ns_hasRoom F_Ns_hasRoom
  simp only [L.x_ns.2, Option.getD_some, mbind_eq]
  by_cases hx : 200 ≤ cI M A.ns 4
  · simp only [if_pos hx, if_pos]
    rw [if_neg (by ((try (simp only [vp_in, Int32.toNatClampNeg, Int32.lt_iff_toInt_lt, Int32.le_iff_toInt_le, ← Int32.toInt_inj, Int32.toInt_add, Int32.toInt_sub, Int32.toInt_mul, Int32.reduceToInt, i32_neg1, Nat.reducePow, Int.reducePow, ne_eq, ge_iff_le, gt_iff_lt] at *)) <;> (first | omega | ((simp (disch := omega) only [bm32] at *) <;> omega))))]
    exact ⟨⟨L.x_ns.1, ⟨_, rfl, L.ns_0.1⟩, ⟨L.ns_0.1, trivial⟩, hl, trivial⟩, rfl⟩
  · simp only [if_neg hx, if_neg (show ¬ (1 : Int32) = 0 by decide)]
    rw [if_pos (by ((try (simp only [vp_in, Int32.toNatClampNeg, Int32.lt_iff_toInt_lt, Int32.le_iff_toInt_le, ← Int32.toInt_inj, Int32.toInt_add, Int32.toInt_sub, Int32.toInt_mul, Int32.reduceToInt, i32_neg1, Nat.reducePow, Int.reducePow, ne_eq, ge_iff_le, gt_iff_lt] at *)) <;> (first | omega | ((simp (disch := omega) only [bm32] at *) <;> omega))))]
    exact ⟨⟨L.x_ns.1, ⟨_, rfl, L.ns_0.1⟩, ⟨L.ns_0.1, trivial⟩, trivial⟩, rfl⟩
theorem n_type {τ : TT} (L : Lay cs A M) (hc : (cI M A.ty 4).toInt = 3 + τ.length) (hl : M.2.1 + 1 ≤ lim.1 ∧ M.2.2 + 6 ≤ lim.2) (x : Int32) : S_N_needType cs lim M A.x x ∧ F_N_needType cs M A.x x = @ite _ (Is (3 + τ.length) x) (dIs (3 + τ.length) x) 0 1 := by
  obtain ⟨s, v⟩ := ty_isType (lim := lim) L hc x
  unfold S_N_needType F_N_needType
  simp only [L.x_ty.2, Option.getD_some, mbind_eq, v]
  by_cases hx : Is (3 + τ.length) x
  · have hx' : 0 ≤ x.toInt ∧ x.toInt < 3 + τ.length := by unfold Is at hx; omega
    simp only [if_pos hx, if_pos hx', if_neg (show ¬ (1 : Int32) = 0 by decide)]
    exact ⟨⟨L.x_ty.1, ⟨_, rfl, L.ty_0.1⟩, s, trivial⟩, trivial⟩
  · have hx' : ¬ (0 ≤ x.toInt ∧ x.toInt < 3 + τ.length) := by unfold Is at hx; omega
    simp only [if_neg hx, if_neg hx', if_pos]
    exact ⟨⟨L.x_ty.1, ⟨_, rfl, L.ty_0.1⟩, s, hl, trivial⟩, trivial⟩
/-- fields of node a are written, one after the other -/
def puts (a : Nat) : List (Nat × Int32) → gMem → gMem
  | [], M => M
  | p :: l, M => puts a l (cP 4 M a p.1 (.int p.2))
def updL (v : Nat → Int32) : List (Nat × Int32) → Nat → Int32
  | [] => v
  | p :: l => updL (upd v p.1 p.2) l
def NewN (cs : Nat → ClassId) (A : Ad) (M : gMem) (N C F : Nat) (nd cd : Nat → Nat → Int32) (a : Nat) (v : Nat → Int32) (sz : Nat × Nat) : Prop := (Lay cs A M) ∧ (NsIs A M N C F nd cd) ∧ (NodeAt M a v) ∧ (Apart A M N a) ∧ (M.2 = sz)
theorem NewN.lay {cs : Nat → ClassId} {A : Ad} {M : gMem} {N C F : Nat} {nd cd : Nat → Nat → Int32} {a : Nat} {v : Nat → Int32} {sz : Nat × Nat} (self : NewN cs A M N C F nd cd a v sz) : Lay cs A M := self.1
theorem NewN.ns {cs : Nat → ClassId} {A : Ad} {M : gMem} {N C F : Nat} {nd cd : Nat → Nat → Int32} {a : Nat} {v : Nat → Int32} {sz : Nat × Nat} (self : NewN cs A M N C F nd cd a v sz) : NsIs A M N C F nd cd := self.2.1
theorem NewN.nod {cs : Nat → ClassId} {A : Ad} {M : gMem} {N C F : Nat} {nd cd : Nat → Nat → Int32} {a : Nat} {v : Nat → Int32} {sz : Nat × Nat} (self : NewN cs A M N C F nd cd a v sz) : NodeAt M a v := self.2.2.1
theorem NewN.ap {cs : Nat → ClassId} {A : Ad} {M : gMem} {N C F : Nat} {nd cd : Nat → Nat → Int32} {a : Nat} {v : Nat → Int32} {sz : Nat × Nat} (self : NewN cs A M N C F nd cd a v sz) : Apart A M N a := self.2.2.2.1
theorem NewN.siz {cs : Nat → ClassId} {A : Ad} {M : gMem} {N C F : Nat} {nd cd : Nat → Nat → Int32} {a : Nat} {v : Nat → Int32} {sz : Nat × Nat} (self : NewN cs A M N C F nd cd a v sz) : M.2 = sz := self.2.2.2.2
theorem NewN.put {a : Nat} {v : Nat → Int32} {sz : Nat × Nat} (h : NewN cs A M N C F nd cd a v sz) {k : Nat} (hk : k < 11) (x : Int32) : NewN cs A (cP 4 M a k (.int x)) N C F nd cd a (upd v k x) sz := by
  obtain ⟨n1, n2⟩ := h.ns.putNode h.lay (k := k) (x := x) h.nod.1 h.ap
  exact ⟨h.lay.ext (W := [(4, k)]) (V := []) (al := false) ((Ext.rf h.lay.mok).put h.nod.1 (by simp) (fun z => (ckd4 hk z).elim) (fun _ => ⟨x, rfl⟩) (fun _ b hb => by cases hb)) (by simp [FIN]), n1, h.nod.put hk x, n2, h.siz⟩
theorem NewN.puts {a : Nat} {sz : Nat × Nat} : ∀ {l : List (Nat × Int32)} {M : gMem} {v : Nat → Int32}, NewN cs A M N C F nd cd a v sz → l.all (fun p => decide (p.1 < 11)) = true → NewN cs A (puts a l M) N C F nd cd a (updL v l) sz := by
  intro l
  induction l with
  | nil => intro M v h _; exact h
  | cons p l ih =>
    intro M v h hl
    simp only [List.all_cons, Bool.and_eq_true, decide_eq_true_eq] at hl
    exact ih (h.put hl.1 p.2) hl.2
theorem NewN.new (L : Lay cs A M) (h : NsIs A M N C F nd cd) : NewN cs A (gnw M (1, .inr (4, [.int 0, .int 0, .int 0, .int 0, .int 0, .int 0, .int 0, .int 0, .int 0, .int 0, .int 0])) 11) N C F nd cd M.2.1 (fun _ => 0) (M.2.1 + 1, M.2.2 + 11) := by
  have e : Ext [] [] true M (gnw M (1, .inr (4, [.int 0, .int 0, .int 0, .int 0, .int 0, .int 0, .int 0, .int 0, .int 0, .int 0, .int 0])) 11) := (Ext.rf L.mok).newO (by decide)
  have ns := h.ext L e (by decide) (by decide) (by decide)
  refine ⟨L.ext e (by decide), ns, ⟨⟨_, gnw_s, by decide, ?_⟩, ?_⟩, ?_, rfl⟩
  · intro k hk
    have : k < 11 := hk
    have hz : ∀ k, k < 11 → ([.int 0, .int 0, .int 0, .int 0, .int 0, .int 0, .int 0, .int 0, .int 0, .int 0, .int 0] : List Value)[k]? = some (.int 0) := by decide
    exact ⟨fun z => (ckd4 this z).elim, fun _ => ⟨0, hz k this⟩⟩
  · intro k hk
    unfold cI
    rw [cO_of gnw_s]
    revert hk; revert k; decide
  · intro i hi q
    have q' : aQ M A.nn i = some M.2.1 := by
      rw [← e.xaQ L.nn.1 (L.nno.notV (by decide))]; exact q
    obtain ⟨b, z1, z2⟩ := h.nds i hi
    rw [z1] at q'
    cases q'
    exact absurd (z2.1.lt L.mok) (Nat.lt_irrefl _)
theorem NewN.begun {a : Nat} {v : Nat → Int32} {sz : Nat × Nat} (h : NewN cs A M N C F nd cd a v sz) (h9 : v 9 = 1) (h10 : v 10 = 1) : Mk M a v (1, 1) :=
  ⟨h.nod.1, fun k hk => h.nod.2 k (by omega), by rw [h.nod.2 9 (by decide), h9]; rfl, by rw [h.nod.2 10 (by decide), h10]; rfl, by decide, by decide, by decide⟩
end
end
section
/-! pure rows, the class: the telling calls -/
def initL (x : Int32) : List (Nat × Int32) := [(2, -1), (3, -1), (4, -1), (5, -1), (6, -1), (9, 1), (10, 1), (0, x)]
/-- what a telling call does -/
def CTold (cs : Nat → ClassId) (A : Ad) (M : gMem) (N C F : Nat) (nd cd : Nat → Nat → Int32) (good : Prop) (v : Nat → Int32) (w : Nat × Int32 × gMem) : Prop :=
  (¬ good → w.1 = 1 ∧ w.2.2 = gsk M) ∧ (good → N = 200 → w.1 = 2 ∧ w.2.2 = gsk M) ∧ (good → N < 200 → w.1 = 0 ∧ w.2.1.toInt = N ∧ Added cs A w.2.2 N C F nd cd v (ms nd (ms nd (ms nd (1, 1) (v 4)) (v 5)) (v 6)) ∧ w.2.2.2 = (M.2.1 + 1, M.2.2 + 11))
section
variable {cs : Nat → ClassId} {lim : Nat × Nat} {A : Ad} {M : gMem} {N C F : Nat} {nd cd : Nat → Nat → Int32}
theorem init_S {a : Nat} {v : Nat → Int32} {sz : Nat × Nat} (n0 : NewN cs A M N C F nd cd a v sz) (x : Int32) : S_No_init cs lim M a x := by
  have n1 := n0.put (k := 2) (by decide) (-1)
  have n2 := n1.put (k := 3) (by decide) (-1)
  have n3 := n2.put (k := 4) (by decide) (-1)
  have n4 := n3.put (k := 5) (by decide) (-1)
  have n5 := n4.put (k := 6) (by decide) (-1)
  have n6 := n5.put (k := 9) (by decide) 1
  have n7 := n6.put (k := 10) (by decide) 1
  exact ⟨n0.nod.1, n1.nod.1, n2.nod.1, n3.nod.1, n4.nod.1, n5.nod.1, n6.nod.1, n7.nod.1, trivial⟩
theorem n_let (L : Lay cs A M) (h : NsIs A M N C F nd cd) (hb : NdB N nd) (hl : M.2.1 + 1 ≤ lim.1 ∧ M.2.2 + 11 ≤ lim.2) {n : Nat} (hn : 50 ≤ n) (x1 x2 x3 : Int32) : S_N_let cs lim n M A.x x1 x2 x3 ∧ CTold cs A M N C F nd cd (Nm x1 ∧ Is N x2 ∧ Is N x3) (updL (fun _ => 0) (initL 4 ++ [(2, x1), (4, x2), (5, x3)])) (F_N_let cs n M A.x x1 x2 x3) := by
  have hl6 : M.2.1 + 1 ≤ lim.1 ∧ M.2.2 + 6 ≤ lim.2 := ⟨hl.1, by omega⟩
  have hN0 := h.hn
  obtain ⟨s0, v0⟩ := n_name (cs := cs) hl6 x1
  obtain ⟨s1, v1⟩ := n_node L h hl6 x2
  obtain ⟨s2, v2⟩ := n_node L h hl6 x3
  obtain ⟨sr, vr⟩ := n_room L h hl6
  have y1 : ¬ (1 : Int32) = 0 := by decide
  have z1 : ¬ (1 : Nat) = 0 := by decide
  have z2 : ¬ (2 : Nat) = 0 := by decide
  unfold S_N_let F_N_let CTold
  simp only [mbind_eq, v0, v1, v2, vr]
  by_cases c0 : Nm x1
  · simp only [if_pos c0, if_pos]
    by_cases c1 : Is N x2
    · simp only [if_pos c1, if_pos]
      by_cases c2 : Is N x3
      · simp only [if_pos c2, if_pos]
        by_cases hN : N < 200
        · simp only [if_pos hN, if_pos]
          have n0 := NewN.new L h
          have si := init_S (lim := lim) n0 4
          have m0 : NewN cs A (F_No_init cs (gnw M (1, .inr (4, [.int 0, .int 0, .int 0, .int 0, .int 0, .int 0, .int 0, .int 0, .int 0, .int 0, .int 0])) 11) M.2.1 4) N C F nd cd M.2.1 (updL (fun _ => 0) (initL 4)) (M.2.1 + 1, M.2.2 + 11) := n0.puts (l := initL 4) (by decide)
          generalize F_No_init cs (gnw M (1, .inr (4, [.int 0, .int 0, .int 0, .int 0, .int 0, .int 0, .int 0, .int 0, .int 0, .int 0, .int 0])) 11) M.2.1 4 = M1 at m0 ⊢
          have m1 := m0.put (k := 2) (by decide) x1
          have m2 := m1.put (k := 4) (by decide) x2
          have m3 := m2.put (k := 5) (by decide) x3
          have ex := m3.lay.x_ns.2
          simp only [ex, Option.getD_some]
          obtain ⟨sa, ea, ra⟩ := ns_add (lim := lim) m3.lay m3.ns hb hN (m3.begun rfl rfl) m3.ap (Pn.of c1) (Pn.of c2) Pn.no (f := 0) (t := 0) rfl rfl (Nat.le_refl _) (Nat.zero_le _) (fun j hj => by omega) hn
          have xa := x_Ns_add cs lim n _ _ _ m3.lay.mok sa
          refine ⟨⟨s0, L.x_ns.1, s1, L.x_ns.1, s2, L.x_ns.1, sr, hl, si, m0.nod.1, m1.nod.1, m2.nod.1, m3.lay.x_ns.1, ⟨_, rfl, m3.lay.ns_0.1⟩, sa, trivial⟩, fun g => absurd ⟨c0, c1, c2⟩ g, fun _ g => absurd g (by omega), fun _ _ => ⟨trivial, ea, ra, (xa.sz.2.2 rfl).trans m3.siz⟩⟩
        · simp only [if_neg hN, if_neg z2]
          exact ⟨⟨s0, L.x_ns.1, s1, L.x_ns.1, s2, L.x_ns.1, sr, trivial⟩, fun g => absurd ⟨c0, c1, c2⟩ g, fun _ _ => ⟨trivial, trivial⟩, fun _ g => absurd g hN⟩
      · simp only [if_neg c2, if_neg z1]
        exact ⟨⟨s0, L.x_ns.1, s1, L.x_ns.1, s2, trivial⟩, fun _ => ⟨trivial, trivial⟩, fun g => absurd g.2.2 c2, fun g => absurd g.2.2 c2⟩
    · simp only [if_neg c1, if_neg z1]
      exact ⟨⟨s0, L.x_ns.1, s1, trivial⟩, fun _ => ⟨trivial, trivial⟩, fun g => absurd g.2.1 c1, fun g => absurd g.2.1 c1⟩
  · simp only [if_neg c0, if_neg z1]
    exact ⟨⟨s0, trivial⟩, fun _ => ⟨trivial, trivial⟩, fun g => absurd g.1 c0, fun g => absurd g.1 c0⟩
theorem n_rec {τ : TT} (L : Lay cs A M) (h : NsIs A M N C F nd cd) (hb : NdB N nd) (hc : (cI M A.ty 4).toInt = 3 + τ.length) (hl : M.2.1 + 1 ≤ lim.1 ∧ M.2.2 + 11 ≤ lim.2) {n : Nat} (hn : 50 ≤ n) (x1 x2 x3 x4 x5 : Int32) : S_N_rec cs lim n M A.x x1 x2 x3 x4 x5 ∧ CTold cs A M N C F nd cd (Nm x1 ∧ Nm x2 ∧ FnT (3 + τ.length) x3 ∧ Is N x4 ∧ Is N x5) (updL (fun _ => 0) (initL 5 ++ [(3, x1), (2, x2), (1, x3), (4, x4), (5, x5)])) (F_N_rec cs n M A.x x1 x2 x3 x4 x5) := by
  have hl6 : M.2.1 + 1 ≤ lim.1 ∧ M.2.2 + 6 ≤ lim.2 := ⟨hl.1, by omega⟩
  have hN0 := h.hn
  obtain ⟨s0, v0⟩ := n_name (cs := cs) hl6 x1
  obtain ⟨s1, v1⟩ := n_name (cs := cs) hl6 x2
  obtain ⟨s2, v2⟩ := ty_isFunction (lim := lim) L hc x3
  obtain ⟨s3, v3⟩ := n_node L h hl6 x4
  obtain ⟨s4, v4⟩ := n_node L h hl6 x5
  obtain ⟨sr, vr⟩ := n_room L h hl6
  have y1 : ¬ (1 : Int32) = 0 := by decide
  have z1 : ¬ (1 : Nat) = 0 := by decide
  have z2 : ¬ (2 : Nat) = 0 := by decide
  unfold S_N_rec F_N_rec CTold
  simp only [mbind_eq, L.x_ty.2, Option.getD_some, v0, v1, v2, v3, v4, vr]
  by_cases c0 : Nm x1
  · simp only [if_pos c0, if_pos]
    by_cases c1 : Nm x2
    · simp only [if_pos c1, if_pos]
      by_cases c2 : FnT (3 + τ.length) x3
      · have c2' : 3 ≤ x3.toInt ∧ x3.toInt < 3 + τ.length := by unfold FnT at c2; omega
        simp only [if_pos c2', if_neg y1]
        by_cases c3 : Is N x4
        · simp only [if_pos c3, if_pos]
          by_cases c4 : Is N x5
          · simp only [if_pos c4, if_pos]
            by_cases hN : N < 200
            · simp only [if_pos hN, if_pos]
              have n0 := NewN.new L h
              have si := init_S (lim := lim) n0 5
              have m0 : NewN cs A (F_No_init cs (gnw M (1, .inr (4, [.int 0, .int 0, .int 0, .int 0, .int 0, .int 0, .int 0, .int 0, .int 0, .int 0, .int 0])) 11) M.2.1 5) N C F nd cd M.2.1 (updL (fun _ => 0) (initL 5)) (M.2.1 + 1, M.2.2 + 11) := n0.puts (l := initL 5) (by decide)
              generalize F_No_init cs (gnw M (1, .inr (4, [.int 0, .int 0, .int 0, .int 0, .int 0, .int 0, .int 0, .int 0, .int 0, .int 0, .int 0])) 11) M.2.1 5 = M1 at m0 ⊢
              have m1 := m0.put (k := 3) (by decide) x1
              have m2 := m1.put (k := 2) (by decide) x2
              have m3 := m2.put (k := 1) (by decide) x3
              have m4 := m3.put (k := 4) (by decide) x4
              have m5 := m4.put (k := 5) (by decide) x5
              have ex := m5.lay.x_ns.2
              simp only [ex, Option.getD_some]
              obtain ⟨sa, ea, ra⟩ := ns_add (lim := lim) m5.lay m5.ns hb hN (m5.begun rfl rfl) m5.ap (Pn.of c3) (Pn.of c4) Pn.no (f := 0) (t := 0) rfl rfl (Nat.le_refl _) (Nat.zero_le _) (fun j hj => by omega) hn
              have xa := x_Ns_add cs lim n _ _ _ m5.lay.mok sa
              refine ⟨⟨s0, s1, L.x_ty.1, ⟨_, rfl, L.ty_0.1⟩, s2, L.x_ns.1, s3, L.x_ns.1, s4, L.x_ns.1, sr, hl, si, m0.nod.1, m1.nod.1, m2.nod.1, m3.nod.1, m4.nod.1, m5.lay.x_ns.1, ⟨_, rfl, m5.lay.ns_0.1⟩, sa, trivial⟩, fun g => absurd ⟨c0, c1, c2, c3, c4⟩ g, fun _ g => absurd g (by omega), fun _ _ => ⟨trivial, ea, ra, (xa.sz.2.2 rfl).trans m5.siz⟩⟩
            · simp only [if_neg hN, if_neg z2]
              exact ⟨⟨s0, s1, L.x_ty.1, ⟨_, rfl, L.ty_0.1⟩, s2, L.x_ns.1, s3, L.x_ns.1, s4, L.x_ns.1, sr, trivial⟩, fun g => absurd ⟨c0, c1, c2, c3, c4⟩ g, fun _ _ => ⟨trivial, trivial⟩, fun _ g => absurd g hN⟩
          · simp only [if_neg c4, if_neg z1]
            exact ⟨⟨s0, s1, L.x_ty.1, ⟨_, rfl, L.ty_0.1⟩, s2, L.x_ns.1, s3, L.x_ns.1, s4, trivial⟩, fun _ => ⟨trivial, trivial⟩, fun g => absurd g.2.2.2.2 c4, fun g => absurd g.2.2.2.2 c4⟩
        · simp only [if_neg c3, if_neg z1]
          exact ⟨⟨s0, s1, L.x_ty.1, ⟨_, rfl, L.ty_0.1⟩, s2, L.x_ns.1, s3, trivial⟩, fun _ => ⟨trivial, trivial⟩, fun g => absurd g.2.2.2.1 c3, fun g => absurd g.2.2.2.1 c3⟩
      · have c2' : ¬ (3 ≤ x3.toInt ∧ x3.toInt < 3 + τ.length) := by unfold FnT at c2; omega
        simp only [if_neg c2', if_pos]
        exact ⟨⟨s0, s1, L.x_ty.1, ⟨_, rfl, L.ty_0.1⟩, s2, hl6, trivial⟩, fun _ => ⟨trivial, trivial⟩, fun g => absurd g.2.2.1 c2, fun g => absurd g.2.2.1 c2⟩
    · simp only [if_neg c1, if_neg z1]
      exact ⟨⟨s0, s1, trivial⟩, fun _ => ⟨trivial, trivial⟩, fun g => absurd g.2.1 c1, fun g => absurd g.2.1 c1⟩
  · simp only [if_neg c0, if_neg z1]
    exact ⟨⟨s0, trivial⟩, fun _ => ⟨trivial, trivial⟩, fun g => absurd g.1 c0, fun g => absurd g.1 c0⟩
theorem n_choice (L : Lay cs A M) (h : NsIs A M N C F nd cd) (hb : NdB N nd) (hl : M.2.1 + 1 ≤ lim.1 ∧ M.2.2 + 11 ≤ lim.2) {n : Nat} (hn : 50 ≤ n) (x1 x2 x3 : Int32) : S_N_choice cs lim n M A.x x1 x2 x3 ∧ CTold cs A M N C F nd cd (Is N x1 ∧ Is N x2 ∧ Is N x3) (updL (fun _ => 0) (initL 6 ++ [(4, x1), (5, x2), (6, x3)])) (F_N_choice cs n M A.x x1 x2 x3) := by
  have hl6 : M.2.1 + 1 ≤ lim.1 ∧ M.2.2 + 6 ≤ lim.2 := ⟨hl.1, by omega⟩
  have hN0 := h.hn
  obtain ⟨s0, v0⟩ := n_node L h hl6 x1
  obtain ⟨s1, v1⟩ := n_node L h hl6 x2
  obtain ⟨s2, v2⟩ := n_node L h hl6 x3
  obtain ⟨sr, vr⟩ := n_room L h hl6
  have y1 : ¬ (1 : Int32) = 0 := by decide
  have z1 : ¬ (1 : Nat) = 0 := by decide
  have z2 : ¬ (2 : Nat) = 0 := by decide
  unfold S_N_choice F_N_choice CTold
  simp only [mbind_eq, v0, v1, v2, vr]
  by_cases c0 : Is N x1
  · simp only [if_pos c0, if_pos]
    by_cases c1 : Is N x2
    · simp only [if_pos c1, if_pos]
      by_cases c2 : Is N x3
      · simp only [if_pos c2, if_pos]
        by_cases hN : N < 200
        · simp only [if_pos hN, if_pos]
          have n0 := NewN.new L h
          have si := init_S (lim := lim) n0 6
          have m0 : NewN cs A (F_No_init cs (gnw M (1, .inr (4, [.int 0, .int 0, .int 0, .int 0, .int 0, .int 0, .int 0, .int 0, .int 0, .int 0, .int 0])) 11) M.2.1 6) N C F nd cd M.2.1 (updL (fun _ => 0) (initL 6)) (M.2.1 + 1, M.2.2 + 11) := n0.puts (l := initL 6) (by decide)
          generalize F_No_init cs (gnw M (1, .inr (4, [.int 0, .int 0, .int 0, .int 0, .int 0, .int 0, .int 0, .int 0, .int 0, .int 0, .int 0])) 11) M.2.1 6 = M1 at m0 ⊢
          have m1 := m0.put (k := 4) (by decide) x1
          have m2 := m1.put (k := 5) (by decide) x2
          have m3 := m2.put (k := 6) (by decide) x3
          have ex := m3.lay.x_ns.2
          simp only [ex, Option.getD_some]
          obtain ⟨sa, ea, ra⟩ := ns_add (lim := lim) m3.lay m3.ns hb hN (m3.begun rfl rfl) m3.ap (Pn.of c0) (Pn.of c1) (Pn.of c2) (f := 0) (t := 0) rfl rfl (Nat.le_refl _) (Nat.zero_le _) (fun j hj => by omega) hn
          have xa := x_Ns_add cs lim n _ _ _ m3.lay.mok sa
          refine ⟨⟨L.x_ns.1, s0, L.x_ns.1, s1, L.x_ns.1, s2, L.x_ns.1, sr, hl, si, m0.nod.1, m1.nod.1, m2.nod.1, m3.lay.x_ns.1, ⟨_, rfl, m3.lay.ns_0.1⟩, sa, trivial⟩, fun g => absurd ⟨c0, c1, c2⟩ g, fun _ g => absurd g (by omega), fun _ _ => ⟨trivial, ea, ra, (xa.sz.2.2 rfl).trans m3.siz⟩⟩
        · simp only [if_neg hN, if_neg z2]
          exact ⟨⟨L.x_ns.1, s0, L.x_ns.1, s1, L.x_ns.1, s2, L.x_ns.1, sr, trivial⟩, fun g => absurd ⟨c0, c1, c2⟩ g, fun _ _ => ⟨trivial, trivial⟩, fun _ g => absurd g hN⟩
      · simp only [if_neg c2, if_neg z1]
        exact ⟨⟨L.x_ns.1, s0, L.x_ns.1, s1, L.x_ns.1, s2, trivial⟩, fun _ => ⟨trivial, trivial⟩, fun g => absurd g.2.2 c2, fun g => absurd g.2.2 c2⟩
    · simp only [if_neg c1, if_neg z1]
      exact ⟨⟨L.x_ns.1, s0, L.x_ns.1, s1, trivial⟩, fun _ => ⟨trivial, trivial⟩, fun g => absurd g.2.1 c1, fun g => absurd g.2.1 c1⟩
  · simp only [if_neg c0, if_neg z1]
    exact ⟨⟨L.x_ns.1, s0, trivial⟩, fun _ => ⟨trivial, trivial⟩, fun g => absurd g.1 c0, fun g => absurd g.1 c0⟩
theorem n_fn {τ : TT} (L : Lay cs A M) (h : NsIs A M N C F nd cd) (hb : NdB N nd) (hc : (cI M A.ty 4).toInt = 3 + τ.length) (hl : M.2.1 + 1 ≤ lim.1 ∧ M.2.2 + 11 ≤ lim.2) {n : Nat} (hn : 50 ≤ n) (x1 x2 x3 : Int32) : S_N_fn cs lim n M A.x x1 x2 x3 ∧ CTold cs A M N C F nd cd (Nm x1 ∧ Is (3 + τ.length) x2 ∧ Is N x3) (updL (fun _ => 0) (initL 7 ++ [(2, x1), (1, x2), (4, x3)])) (F_N_fn cs n M A.x x1 x2 x3) := by
  have hl6 : M.2.1 + 1 ≤ lim.1 ∧ M.2.2 + 6 ≤ lim.2 := ⟨hl.1, by omega⟩
  have hN0 := h.hn
  obtain ⟨s0, v0⟩ := n_name (cs := cs) hl6 x1
  obtain ⟨s1, v1⟩ := n_type L hc hl6 x2
  obtain ⟨s2, v2⟩ := n_node L h hl6 x3
  obtain ⟨sr, vr⟩ := n_room L h hl6
  have y1 : ¬ (1 : Int32) = 0 := by decide
  have z1 : ¬ (1 : Nat) = 0 := by decide
  have z2 : ¬ (2 : Nat) = 0 := by decide
  unfold S_N_fn F_N_fn CTold
  simp only [mbind_eq, v0, v1, v2, vr]
  by_cases c0 : Nm x1
  · simp only [if_pos c0, if_pos]
    by_cases c1 : Is (3 + τ.length) x2
    · simp only [if_pos c1, if_pos]
      by_cases c2 : Is N x3
      · simp only [if_pos c2, if_pos]
        by_cases hN : N < 200
        · simp only [if_pos hN, if_pos]
          have n0 := NewN.new L h
          have si := init_S (lim := lim) n0 7
          have m0 : NewN cs A (F_No_init cs (gnw M (1, .inr (4, [.int 0, .int 0, .int 0, .int 0, .int 0, .int 0, .int 0, .int 0, .int 0, .int 0, .int 0])) 11) M.2.1 7) N C F nd cd M.2.1 (updL (fun _ => 0) (initL 7)) (M.2.1 + 1, M.2.2 + 11) := n0.puts (l := initL 7) (by decide)
          generalize F_No_init cs (gnw M (1, .inr (4, [.int 0, .int 0, .int 0, .int 0, .int 0, .int 0, .int 0, .int 0, .int 0, .int 0, .int 0])) 11) M.2.1 7 = M1 at m0 ⊢
          have m1 := m0.put (k := 2) (by decide) x1
          have m2 := m1.put (k := 1) (by decide) x2
          have m3 := m2.put (k := 4) (by decide) x3
          have ex := m3.lay.x_ns.2
          simp only [ex, Option.getD_some]
          obtain ⟨sa, ea, ra⟩ := ns_add (lim := lim) m3.lay m3.ns hb hN (m3.begun rfl rfl) m3.ap (Pn.of c2) Pn.no Pn.no (f := 0) (t := 0) rfl rfl (Nat.le_refl _) (Nat.zero_le _) (fun j hj => by omega) hn
          have xa := x_Ns_add cs lim n _ _ _ m3.lay.mok sa
          refine ⟨⟨s0, L.x_ns.1, s1, L.x_ns.1, s2, L.x_ns.1, sr, hl, si, m0.nod.1, m1.nod.1, m2.nod.1, m3.lay.x_ns.1, ⟨_, rfl, m3.lay.ns_0.1⟩, sa, trivial⟩, fun g => absurd ⟨c0, c1, c2⟩ g, fun _ g => absurd g (by omega), fun _ _ => ⟨trivial, ea, ra, (xa.sz.2.2 rfl).trans m3.siz⟩⟩
        · simp only [if_neg hN, if_neg z2]
          exact ⟨⟨s0, L.x_ns.1, s1, L.x_ns.1, s2, L.x_ns.1, sr, trivial⟩, fun g => absurd ⟨c0, c1, c2⟩ g, fun _ _ => ⟨trivial, trivial⟩, fun _ g => absurd g hN⟩
      · simp only [if_neg c2, if_neg z1]
        exact ⟨⟨s0, L.x_ns.1, s1, L.x_ns.1, s2, trivial⟩, fun _ => ⟨trivial, trivial⟩, fun g => absurd g.2.2 c2, fun g => absurd g.2.2 c2⟩
    · simp only [if_neg c1, if_neg z1]
      exact ⟨⟨s0, L.x_ns.1, s1, trivial⟩, fun _ => ⟨trivial, trivial⟩, fun g => absurd g.2.1 c1, fun g => absurd g.2.1 c1⟩
  · simp only [if_neg c0, if_neg z1]
    exact ⟨⟨s0, trivial⟩, fun _ => ⟨trivial, trivial⟩, fun g => absurd g.1 c0, fun g => absurd g.1 c0⟩
theorem n_two (L : Lay cs A M) (h : NsIs A M N C F nd cd) (hb : NdB N nd) (hl : M.2.1 + 1 ≤ lim.1 ∧ M.2.2 + 11 ≤ lim.2) {n : Nat} (hn : 50 ≤ n) (x1 x2 x3 : Int32) : S_N_two cs lim n M A.x x1 x2 x3 ∧ CTold cs A M N C F nd cd (Is 5 x1 ∧ Is N x2 ∧ Is N x3) (updL (fun _ => 0) (initL 9 ++ [(1, x1), (4, x2), (5, x3)])) (F_N_two cs n M A.x x1 x2 x3) := by
  have hl6 : M.2.1 + 1 ≤ lim.1 ∧ M.2.2 + 6 ≤ lim.2 := ⟨hl.1, by omega⟩
  have hN0 := h.hn
  obtain ⟨s1, v1⟩ := n_node L h hl6 x2
  obtain ⟨s2, v2⟩ := n_node L h hl6 x3
  obtain ⟨sr, vr⟩ := n_room L h hl6
  have y1 : ¬ (1 : Int32) = 0 := by decide
  have z1 : ¬ (1 : Nat) = 0 := by decide
  have z2 : ¬ (2 : Nat) = 0 := by decide
  unfold S_N_two F_N_two CTold
  simp only [mbind_eq, v1, v2, vr]
  by_cases c0 : Is 5 x1
  · have c0' : ¬ x1 < 0 := by unfold Is at c0; ((try (simp only [vp_in, Int32.toNatClampNeg, Int32.lt_iff_toInt_lt, Int32.le_iff_toInt_le, ← Int32.toInt_inj, Int32.toInt_add, Int32.toInt_sub, Int32.toInt_mul, Int32.reduceToInt, i32_neg1, Nat.reducePow, Int.reducePow, ne_eq, ge_iff_le, gt_iff_lt] at *)) <;> (first | omega | ((simp (disch := omega) only [bm32] at *) <;> omega)))
    have c0'' : x1 ≤ 4 := by unfold Is at c0; ((try (simp only [vp_in, Int32.toNatClampNeg, Int32.lt_iff_toInt_lt, Int32.le_iff_toInt_le, ← Int32.toInt_inj, Int32.toInt_add, Int32.toInt_sub, Int32.toInt_mul, Int32.reduceToInt, i32_neg1, Nat.reducePow, Int.reducePow, ne_eq, ge_iff_le, gt_iff_lt] at *)) <;> (first | omega | ((simp (disch := omega) only [bm32] at *) <;> omega)))
    simp only [if_neg c0', if_pos c0'']
    by_cases c1 : Is N x2
    · simp only [if_pos c1, if_pos]
      by_cases c2 : Is N x3
      · simp only [if_pos c2, if_pos]
        by_cases hN : N < 200
        · simp only [if_pos hN, if_pos]
          have n0 := NewN.new L h
          have si := init_S (lim := lim) n0 9
          have m0 : NewN cs A (F_No_init cs (gnw M (1, .inr (4, [.int 0, .int 0, .int 0, .int 0, .int 0, .int 0, .int 0, .int 0, .int 0, .int 0, .int 0])) 11) M.2.1 9) N C F nd cd M.2.1 (updL (fun _ => 0) (initL 9)) (M.2.1 + 1, M.2.2 + 11) := n0.puts (l := initL 9) (by decide)
          generalize F_No_init cs (gnw M (1, .inr (4, [.int 0, .int 0, .int 0, .int 0, .int 0, .int 0, .int 0, .int 0, .int 0, .int 0, .int 0])) 11) M.2.1 9 = M1 at m0 ⊢
          have m1 := m0.put (k := 1) (by decide) x1
          have m2 := m1.put (k := 4) (by decide) x2
          have m3 := m2.put (k := 5) (by decide) x3
          have ex := m3.lay.x_ns.2
          simp only [ex, Option.getD_some]
          obtain ⟨sa, ea, ra⟩ := ns_add (lim := lim) m3.lay m3.ns hb hN (m3.begun rfl rfl) m3.ap (Pn.of c1) (Pn.of c2) Pn.no (f := 0) (t := 0) rfl rfl (Nat.le_refl _) (Nat.zero_le _) (fun j hj => by omega) hn
          have xa := x_Ns_add cs lim n _ _ _ m3.lay.mok sa
          refine ⟨⟨L.x_ns.1, s1, L.x_ns.1, s2, L.x_ns.1, sr, hl, si, m0.nod.1, m1.nod.1, m2.nod.1, m3.lay.x_ns.1, ⟨_, rfl, m3.lay.ns_0.1⟩, sa, trivial⟩, fun g => absurd ⟨c0, c1, c2⟩ g, fun _ g => absurd g (by omega), fun _ _ => ⟨trivial, ea, ra, (xa.sz.2.2 rfl).trans m3.siz⟩⟩
        · simp only [if_neg hN, if_neg z2]
          exact ⟨⟨L.x_ns.1, s1, L.x_ns.1, s2, L.x_ns.1, sr, trivial⟩, fun g => absurd ⟨c0, c1, c2⟩ g, fun _ _ => ⟨trivial, trivial⟩, fun _ g => absurd g hN⟩
      · simp only [if_neg c2, if_neg z1]
        exact ⟨⟨L.x_ns.1, s1, L.x_ns.1, s2, trivial⟩, fun _ => ⟨trivial, trivial⟩, fun g => absurd g.2.2 c2, fun g => absurd g.2.2 c2⟩
    · simp only [if_neg c1, if_neg z1]
      exact ⟨⟨L.x_ns.1, s1, trivial⟩, fun _ => ⟨trivial, trivial⟩, fun g => absurd g.2.1 c1, fun g => absurd g.2.1 c1⟩
  · by_cases d0 : x1 < 0
    · simp only [if_pos d0]
      exact ⟨⟨hl6, trivial⟩, fun _ => ⟨trivial, trivial⟩, fun g => absurd g.1 c0, fun g => absurd g.1 c0⟩
    · have d0' : ¬ x1 ≤ 4 := by unfold Is at c0; ((try (simp only [vp_in, Int32.toNatClampNeg, Int32.lt_iff_toInt_lt, Int32.le_iff_toInt_le, ← Int32.toInt_inj, Int32.toInt_add, Int32.toInt_sub, Int32.toInt_mul, Int32.reduceToInt, i32_neg1, Nat.reducePow, Int.reducePow, ne_eq, ge_iff_le, gt_iff_lt] at *)) <;> (first | omega | ((simp (disch := omega) only [bm32] at *) <;> omega)))
      simp only [if_neg d0, if_neg d0']
      exact ⟨⟨hl6, trivial⟩, fun _ => ⟨trivial, trivial⟩, fun g => absurd g.1 c0, fun g => absurd g.1 c0⟩
theorem n_call (L : Lay cs A M) (h : NsIs A M N C F nd cd) (hb : NdB N nd) (hl : M.2.1 + 1 ≤ lim.1 ∧ M.2.2 + 11 ≤ lim.2) {n : Nat} (hn : 50 ≤ n) (x1 x2 : Int32) : S_N_call cs lim n M A.x x1 x2 ∧ CTold cs A M N C F nd cd (Is N x1 ∧ Is N x2) (updL (fun _ => 0) (initL 10 ++ [(4, x1), (5, x2)])) (F_N_call cs n M A.x x1 x2) := by
  have hl6 : M.2.1 + 1 ≤ lim.1 ∧ M.2.2 + 6 ≤ lim.2 := ⟨hl.1, by omega⟩
  have hN0 := h.hn
  obtain ⟨s0, v0⟩ := n_node L h hl6 x1
  obtain ⟨s1, v1⟩ := n_node L h hl6 x2
  obtain ⟨sr, vr⟩ := n_room L h hl6
  have y1 : ¬ (1 : Int32) = 0 := by decide
  have z1 : ¬ (1 : Nat) = 0 := by decide
  have z2 : ¬ (2 : Nat) = 0 := by decide
  unfold S_N_call F_N_call CTold
  simp only [mbind_eq, v0, v1, vr]
  by_cases c0 : Is N x1
  · simp only [if_pos c0, if_pos]
    by_cases c1 : Is N x2
    · simp only [if_pos c1, if_pos]
      by_cases hN : N < 200
      · simp only [if_pos hN, if_pos]
        have n0 := NewN.new L h
        have si := init_S (lim := lim) n0 10
        have m0 : NewN cs A (F_No_init cs (gnw M (1, .inr (4, [.int 0, .int 0, .int 0, .int 0, .int 0, .int 0, .int 0, .int 0, .int 0, .int 0, .int 0])) 11) M.2.1 10) N C F nd cd M.2.1 (updL (fun _ => 0) (initL 10)) (M.2.1 + 1, M.2.2 + 11) := n0.puts (l := initL 10) (by decide)
        generalize F_No_init cs (gnw M (1, .inr (4, [.int 0, .int 0, .int 0, .int 0, .int 0, .int 0, .int 0, .int 0, .int 0, .int 0, .int 0])) 11) M.2.1 10 = M1 at m0 ⊢
        have m1 := m0.put (k := 4) (by decide) x1
        have m2 := m1.put (k := 5) (by decide) x2
        have ex := m2.lay.x_ns.2
        simp only [ex, Option.getD_some]
        obtain ⟨sa, ea, ra⟩ := ns_add (lim := lim) m2.lay m2.ns hb hN (m2.begun rfl rfl) m2.ap (Pn.of c0) (Pn.of c1) Pn.no (f := 0) (t := 0) rfl rfl (Nat.le_refl _) (Nat.zero_le _) (fun j hj => by omega) hn
        have xa := x_Ns_add cs lim n _ _ _ m2.lay.mok sa
        refine ⟨⟨L.x_ns.1, s0, L.x_ns.1, s1, L.x_ns.1, sr, hl, si, m0.nod.1, m1.nod.1, m2.lay.x_ns.1, ⟨_, rfl, m2.lay.ns_0.1⟩, sa, trivial⟩, fun g => absurd ⟨c0, c1⟩ g, fun _ g => absurd g (by omega), fun _ _ => ⟨trivial, ea, ra, (xa.sz.2.2 rfl).trans m2.siz⟩⟩
      · simp only [if_neg hN, if_neg z2]
        exact ⟨⟨L.x_ns.1, s0, L.x_ns.1, s1, L.x_ns.1, sr, trivial⟩, fun g => absurd ⟨c0, c1⟩ g, fun _ _ => ⟨trivial, trivial⟩, fun _ g => absurd g hN⟩
    · simp only [if_neg c1, if_neg z1]
      exact ⟨⟨L.x_ns.1, s0, L.x_ns.1, s1, trivial⟩, fun _ => ⟨trivial, trivial⟩, fun g => absurd g.2 c1, fun g => absurd g.2 c1⟩
  · simp only [if_neg c0, if_neg z1]
    exact ⟨⟨L.x_ns.1, s0, trivial⟩, fun _ => ⟨trivial, trivial⟩, fun g => absurd g.1 c0, fun g => absurd g.1 c0⟩
theorem n_perform (L : Lay cs A M) (h : NsIs A M N C F nd cd) (hb : NdB N nd) (hl : M.2.1 + 1 ≤ lim.1 ∧ M.2.2 + 11 ≤ lim.2) {n : Nat} (hn : 50 ≤ n) (x1 x2 : Int32) : S_N_perform cs lim n M A.x x1 x2 ∧ CTold cs A M N C F nd cd (Is 8 x1 ∧ Is N x2) (updL (fun _ => 0) (initL 11 ++ [(1, x1), (4, x2)])) (F_N_perform cs n M A.x x1 x2) := by
  have hl6 : M.2.1 + 1 ≤ lim.1 ∧ M.2.2 + 6 ≤ lim.2 := ⟨hl.1, by omega⟩
  have hN0 := h.hn
  obtain ⟨s0, v0⟩ := n_effect (cs := cs) hl6 x1
  obtain ⟨s1, v1⟩ := n_node L h hl6 x2
  obtain ⟨sr, vr⟩ := n_room L h hl6
  have y1 : ¬ (1 : Int32) = 0 := by decide
  have z1 : ¬ (1 : Nat) = 0 := by decide
  have z2 : ¬ (2 : Nat) = 0 := by decide
  unfold S_N_perform F_N_perform CTold
  simp only [mbind_eq, v0, v1, vr]
  by_cases c0 : Is 8 x1
  · simp only [if_pos c0, if_pos]
    by_cases c1 : Is N x2
    · simp only [if_pos c1, if_pos]
      by_cases hN : N < 200
      · simp only [if_pos hN, if_pos]
        have n0 := NewN.new L h
        have si := init_S (lim := lim) n0 11
        have m0 : NewN cs A (F_No_init cs (gnw M (1, .inr (4, [.int 0, .int 0, .int 0, .int 0, .int 0, .int 0, .int 0, .int 0, .int 0, .int 0, .int 0])) 11) M.2.1 11) N C F nd cd M.2.1 (updL (fun _ => 0) (initL 11)) (M.2.1 + 1, M.2.2 + 11) := n0.puts (l := initL 11) (by decide)
        generalize F_No_init cs (gnw M (1, .inr (4, [.int 0, .int 0, .int 0, .int 0, .int 0, .int 0, .int 0, .int 0, .int 0, .int 0, .int 0])) 11) M.2.1 11 = M1 at m0 ⊢
        have m1 := m0.put (k := 1) (by decide) x1
        have m2 := m1.put (k := 4) (by decide) x2
        have ex := m2.lay.x_ns.2
        simp only [ex, Option.getD_some]
        obtain ⟨sa, ea, ra⟩ := ns_add (lim := lim) m2.lay m2.ns hb hN (m2.begun rfl rfl) m2.ap (Pn.of c1) Pn.no Pn.no (f := 0) (t := 0) rfl rfl (Nat.le_refl _) (Nat.zero_le _) (fun j hj => by omega) hn
        have xa := x_Ns_add cs lim n _ _ _ m2.lay.mok sa
        refine ⟨⟨s0, L.x_ns.1, s1, L.x_ns.1, sr, hl, si, m0.nod.1, m1.nod.1, m2.lay.x_ns.1, ⟨_, rfl, m2.lay.ns_0.1⟩, sa, trivial⟩, fun g => absurd ⟨c0, c1⟩ g, fun _ g => absurd g (by omega), fun _ _ => ⟨trivial, ea, ra, (xa.sz.2.2 rfl).trans m2.siz⟩⟩
      · simp only [if_neg hN, if_neg z2]
        exact ⟨⟨s0, L.x_ns.1, s1, L.x_ns.1, sr, trivial⟩, fun g => absurd ⟨c0, c1⟩ g, fun _ _ => ⟨trivial, trivial⟩, fun _ g => absurd g hN⟩
    · simp only [if_neg c1, if_neg z1]
      exact ⟨⟨s0, L.x_ns.1, s1, trivial⟩, fun _ => ⟨trivial, trivial⟩, fun g => absurd g.2 c1, fun g => absurd g.2 c1⟩
  · simp only [if_neg c0, if_neg z1]
    exact ⟨⟨s0, trivial⟩, fun _ => ⟨trivial, trivial⟩, fun g => absurd g.1 c0, fun g => absurd g.1 c0⟩
end
end
