-- pure rows: CR CS CT CU CV CW
section
/-! pure rows, the class: atom -/
def atF (cs : Nat → ClassId) (n : Nat) (M : gMem) (a0 : Nat) (x1 x2 : Int32) : Nat × Int32 × gMem := mbind (F_N_needRoom cs M a0 ) (fun w70 => if w70 = 0 then (mbind (F_No_init cs (gnw M (1, .inr (4, [.int 0, .int 0, .int 0, .int 0, .int 0, .int 0, .int 0, .int 0, .int 0, .int 0, .int 0])) 11) M.2.1 x1) (fun w74 => if x1 = 2 then (mbind (F_Ns_add cs n (cP 4 w74 M.2.1 1 (.int 0)) ((cQ (cP 4 w74 M.2.1 1 (.int 0)) a0 1).getD 0) (some M.2.1)) (fun w85 => (0, w85.1, w85.2))) else (mbind (F_Ns_add cs n (cP 4 w74 M.2.1 1 (.int x2)) ((cQ (cP 4 w74 M.2.1 1 (.int x2)) a0 1).getD 0) (some M.2.1)) (fun w80 => (0, w80.1, w80.2))))) else ((w70, 0, gsk M)))
def atomS (cs : Nat → ClassId) (lim : Nat × Nat) (n : Nat) (M : gMem) (a0 : Nat) (x1 x2 : Int32) : Prop := (cOk 0 M a0) ∧ ((S_N_needRoom cs lim M a0 ) ∧ (mbind (F_N_needRoom cs M a0 ) (fun w70 => if w70 = 0 then ((M.2.1 + 1 ≤ lim.1 ∧ M.2.2 + 11 ≤ lim.2) ∧ ((S_No_init cs lim (gnw M (1, .inr (4, [.int 0, .int 0, .int 0, .int 0, .int 0, .int 0, .int 0, .int 0, .int 0, .int 0, .int 0])) 11) M.2.1 x1) ∧ (mbind (F_No_init cs (gnw M (1, .inr (4, [.int 0, .int 0, .int 0, .int 0, .int 0, .int 0, .int 0, .int 0, .int 0, .int 0, .int 0])) 11) M.2.1 x1) (fun w74 => if x1 = 2 then ((cOk 4 w74 M.2.1) ∧ ((cOk 0 (cP 4 w74 M.2.1 1 (.int 0)) a0) ∧ ((cOq 3 (cP 4 w74 M.2.1 1 (.int 0)) (cQ (cP 4 w74 M.2.1 1 (.int 0)) a0 1)) ∧ ((S_Ns_add cs lim n (cP 4 w74 M.2.1 1 (.int 0)) ((cQ (cP 4 w74 M.2.1 1 (.int 0)) a0 1).getD 0) (some M.2.1)) ∧ (mbind (F_Ns_add cs n (cP 4 w74 M.2.1 1 (.int 0)) ((cQ (cP 4 w74 M.2.1 1 (.int 0)) a0 1).getD 0) (some M.2.1)) (fun w85 => True)))))) else ((cOk 4 w74 M.2.1) ∧ ((cOk 0 (cP 4 w74 M.2.1 1 (.int x2)) a0) ∧ ((cOq 3 (cP 4 w74 M.2.1 1 (.int x2)) (cQ (cP 4 w74 M.2.1 1 (.int x2)) a0 1)) ∧ ((S_Ns_add cs lim n (cP 4 w74 M.2.1 1 (.int x2)) ((cQ (cP 4 w74 M.2.1 1 (.int x2)) a0 1).getD 0) (some M.2.1)) ∧ (mbind (F_Ns_add cs n (cP 4 w74 M.2.1 1 (.int x2)) ((cQ (cP 4 w74 M.2.1 1 (.int x2)) a0 1).getD 0) (some M.2.1)) (fun w80 => True)))))))))) else (True))))
section
variable {cs : Nat → ClassId} {lim : Nat × Nat} {A : Ad} {M : gMem} {N C F : Nat} {nd cd : Nat → Nat → Int32}
abbrev atV (x1 x2 : Int32) : Nat → Int32 := updL (fun _ => 0) (initL x1 ++ [(1, if x1 = 2 then 0 else x2)])
theorem at_tail (L : Lay cs A M) (h : NsIs A M N C F nd cd) (hb : NdB N nd) (hl : M.2.1 + 1 ≤ lim.1 ∧ M.2.2 + 11 ≤ lim.2) {n : Nat} (hn : 50 ≤ n) (x1 x2 : Int32) {good : Prop} (g : good) : atomS cs lim n M A.x x1 x2 ∧ CTold cs A M N C F nd cd good (atV x1 x2) (atF cs n M A.x x1 x2) := by
  have hl6 : M.2.1 + 1 ≤ lim.1 ∧ M.2.2 + 6 ≤ lim.2 := ⟨hl.1, by omega⟩
  have hN0 := h.hn
  obtain ⟨sr, vr⟩ := n_room L h hl6
  have z2 : ¬ (2 : Nat) = 0 := by decide
  unfold atomS atF CTold
  simp only [mbind_eq, vr]
  by_cases hN : N < 200
  · simp only [if_pos hN, if_pos]
    have n0 := NewN.new L h
    have si := init_S (lim := lim) n0 x1
    have m0 : NewN cs A (F_No_init cs (gnw M (1, .inr (4, [.int 0, .int 0, .int 0, .int 0, .int 0, .int 0, .int 0, .int 0, .int 0, .int 0, .int 0])) 11) M.2.1 x1) N C F nd cd M.2.1 (updL (fun _ => 0) (initL x1)) (M.2.1 + 1, M.2.2 + 11) := n0.puts (l := initL x1) (by rfl)
    generalize F_No_init cs (gnw M (1, .inr (4, [.int 0, .int 0, .int 0, .int 0, .int 0, .int 0, .int 0, .int 0, .int 0, .int 0, .int 0])) 11) M.2.1 x1 = M1 at m0 ⊢
    by_cases h2 : x1 = 2
    · have m1 := m0.put (k := 1) (by decide) 0
      have ex := m1.lay.x_ns.2
      simp only [ex, Option.getD_some, if_pos h2]
      obtain ⟨sa, ea, ra⟩ := ns_add (lim := lim) m1.lay m1.ns hb hN (m1.begun rfl rfl) m1.ap Pn.no Pn.no Pn.no (f := 0) (t := 0) rfl rfl (Nat.le_refl _) (Nat.zero_le _) (fun j hj => by omega) hn
      have xa := x_Ns_add cs lim n _ _ _ m1.lay.mok sa
      have ev : (atV x1 x2) = upd (updL (fun _ => 0) (initL x1)) 1 0 := by unfold atV; rw [if_pos h2]; rfl
      refine ⟨⟨L.x_ns.1, sr, hl, si, m0.nod.1, m1.lay.x_ns.1, ⟨_, rfl, m1.lay.ns_0.1⟩, sa, trivial⟩, fun q => absurd g q, fun _ q => absurd q (by omega), fun _ _ => ⟨trivial, ea, ?_, (xa.sz.2.2 rfl).trans m1.siz⟩⟩
      rw [ev]
      exact ra
    · have m1 := m0.put (k := 1) (by decide) x2
      have ex := m1.lay.x_ns.2
      simp only [ex, Option.getD_some, if_neg h2]
      obtain ⟨sa, ea, ra⟩ := ns_add (lim := lim) m1.lay m1.ns hb hN (m1.begun rfl rfl) m1.ap Pn.no Pn.no Pn.no (f := 0) (t := 0) rfl rfl (Nat.le_refl _) (Nat.zero_le _) (fun j hj => by omega) hn
      have xa := x_Ns_add cs lim n _ _ _ m1.lay.mok sa
      have ev : (atV x1 x2) = upd (updL (fun _ => 0) (initL x1)) 1 x2 := by unfold atV; rw [if_neg h2]; rfl
      rw [ev]
      exact ⟨⟨L.x_ns.1, sr, hl, si, m0.nod.1, m1.lay.x_ns.1, ⟨_, rfl, m1.lay.ns_0.1⟩, sa, trivial⟩, fun q => absurd g q, fun _ q => absurd q (by omega), fun _ _ => ⟨trivial, ea, ra, (xa.sz.2.2 rfl).trans m1.siz⟩⟩
  · simp only [if_neg hN, if_neg z2]
    exact ⟨⟨L.x_ns.1, sr, trivial⟩, fun q => absurd g q, fun _ _ => ⟨trivial, trivial⟩, fun _ q => absurd q hN⟩
theorem n_atom (L : Lay cs A M) (h : NsIs A M N C F nd cd) (hb : NdB N nd) (hl : M.2.1 + 1 ≤ lim.1 ∧ M.2.2 + 11 ≤ lim.2) {n : Nat} (hn : 50 ≤ n) (x1 x2 : Int32) : S_N_atom cs lim n M A.x x1 x2 ∧ CTold cs A M N C F nd cd (AtG x1 x2) (atV x1 x2) (F_N_atom cs n M A.x x1 x2) := by
  have hl6 : M.2.1 + 1 ≤ lim.1 ∧ M.2.2 + 6 ≤ lim.2 := ⟨hl.1, by omega⟩
  have z1 : ¬ (1 : Nat) = 0 := by decide
  have bad : ∀ {k : Int32}, ¬ AtG x1 x2 → CTold cs A M N C F nd cd (AtG x1 x2) (atV x1 x2) (1, k, gsk M) := fun g => ⟨fun _ => ⟨rfl, rfl⟩, fun q => absurd q g, fun q => absurd q g⟩
  obtain ⟨s1, v1⟩ := n_name (cs := cs) hl6 x2
  unfold S_N_atom F_N_atom
  by_cases h1 : x1 < 0
  · simp only [if_pos h1]
    exact ⟨⟨hl6, trivial⟩, bad (fun g => by have := g.1; unfold Is at this; ((try (simp only [vp_in, Int32.toNatClampNeg, Int32.lt_iff_toInt_lt, Int32.le_iff_toInt_le, ← Int32.toInt_inj, Int32.toInt_add, Int32.toInt_sub, Int32.toInt_mul, Int32.reduceToInt, i32_neg1, Nat.reducePow, Int.reducePow, ne_eq, ge_iff_le, gt_iff_lt] at *)) <;> (first | omega | ((simp (disch := omega) only [bm32] at *) <;> omega))))⟩
  · by_cases h2 : x1 ≤ 3
    · simp only [if_neg h1, if_pos h2]
      have i4 : Is 4 x1 := by unfold Is; ((try (simp only [vp_in, Int32.toNatClampNeg, Int32.lt_iff_toInt_lt, Int32.le_iff_toInt_le, ← Int32.toInt_inj, Int32.toInt_add, Int32.toInt_sub, Int32.toInt_mul, Int32.reduceToInt, i32_neg1, Nat.reducePow, Int.reducePow, ne_eq, ge_iff_le, gt_iff_lt] at *)) <;> (first | omega | ((simp (disch := omega) only [bm32] at *) <;> omega)))
      by_cases h3 : x1 = 1
      · have h4 : ¬ x1 = 3 := by rw [h3]; decide
        simp only [if_pos h3, if_neg h4]
        by_cases h5 : x2 = 0
        · simp only [if_pos h5]
          exact at_tail L h hb hl hn x1 x2 ⟨i4, fun _ => Or.inl h5, fun q => absurd q h4⟩
        · by_cases h6 : x2 = 1
          · simp only [if_neg h5, if_pos h6]
            exact at_tail L h hb hl hn x1 x2 ⟨i4, fun _ => Or.inr h6, fun q => absurd q h4⟩
          · simp only [if_neg h5, if_neg h6]
            exact ⟨⟨hl6, trivial⟩, bad (fun g => by rcases g.2.1 h3 with q | q; exact h5 q; exact h6 q)⟩
      · simp only [if_neg h3]
        by_cases h4 : x1 = 3
        · simp only [if_pos h4, mbind_eq, v1]
          by_cases h5 : Nm x2
          · simp only [if_pos h5, if_pos]
            have r := at_tail (lim := lim) L h hb hl hn x1 x2 (good := AtG x1 x2) ⟨i4, fun q => absurd q h3, fun _ => h5⟩
            unfold atomS atF at r
            simp only [mbind_eq] at r
            exact ⟨⟨s1, r.1⟩, r.2⟩
          · simp only [if_neg h5, if_neg z1]
            exact ⟨⟨s1, trivial⟩, bad (fun g => h5 (g.2.2 h4))⟩
        · simp only [if_neg h4]
          exact at_tail L h hb hl hn x1 x2 ⟨i4, fun q => absurd q h3, fun q => absurd q h4⟩
    · simp only [if_neg h1, if_neg h2]
      exact ⟨⟨hl6, trivial⟩, bad (fun g => by have := g.1; unfold Is at this; ((try (simp only [vp_in, Int32.toNatClampNeg, Int32.lt_iff_toInt_lt, Int32.le_iff_toInt_le, ← Int32.toInt_inj, Int32.toInt_add, Int32.toInt_sub, Int32.toInt_mul, Int32.reduceToInt, i32_neg1, Nat.reducePow, Int.reducePow, ne_eq, ge_iff_le, gt_iff_lt] at *)) <;> (first | omega | ((simp (disch := omega) only [bm32] at *) <;> omega))))⟩
end
end
section
/-! pure rows, the class: handle -/
section
variable {cs : Nat → ClassId} {lim : Nat × Nat} {A : Ad} {M : gMem} {N C F : Nat} {nd cd : Nat → Nat → Int32}
theorem NsIs.putF (L : Lay cs A M) (h : NsIs A M N C F nd cd) {x : Int32} {F' : Nat} (hx : x.toInt = F') (hF : F' ≤ C) : NsIs A (cP 3 M A.ns 6 (.int x)) N C F' nd cd := by
  have o := L.ns_0.1
  have sm : ∀ b, b ≠ A.ns → (cP 3 M A.ns 6 (.int x)).1 b = M.1 b := fun b hb => by unfold cP; exact gup_n hb
  have on : A.nn ≠ A.ns := fun q => o.notQ (q ▸ L.nn.1)
  have oc : A.cl ≠ A.ns := fun q => o.notQ (q ▸ L.cl.1)
  refine ⟨by rw [cI_put_ne (Or.inr (by decide))]; exact h.n, h.hn, by rw [cI_put_ne (Or.inr (by decide))]; exact h.c, h.hc, by rw [cI_put o (by decide)]; exact hx, hF, fun i hi => ?_, fun j hj => ?_⟩
  · obtain ⟨b, q1, q2⟩ := h.nds i hi
    have hb : b ≠ A.ns := fun q => by have := (q ▸ q2.1 : cOk 4 M A.ns).uniq o; omega
    exact ⟨b, by rw [aQ_cong (sm _ on)]; exact q1, (cOk_cong (sm _ hb)).mpr q2.1, fun k hk => (cI_cong (sm _ hb)).trans (q2.2 k hk)⟩
  · obtain ⟨b, q1, q2⟩ := h.cls j hj
    have hb : b ≠ A.ns := fun q => by have := (q ▸ q2.1 : cOk 5 M A.ns).uniq o; omega
    exact ⟨b, by rw [aQ_cong (sm _ oc)]; exact q1, (cOk_cong (sm _ hb)).mpr q2.1, fun k hk => (cI_cong (sm _ hb)).trans (q2.2 k hk)⟩
theorem ns_give {a : Nat} {v : Nat → Int32} {sz : Nat × Nat} (h : NewN cs A M N C F nd cd a v sz) : S_Ns_giveReadyClauses cs lim M A.ns (some a) ∧ NewN cs A (F_Ns_giveReadyClauses cs M A.ns (some a)) N C C nd cd a (upd (upd v 7 (cI M A.ns 6)) 8 (cI M A.ns 5)) sz := by
  have o3 : A.ns ≠ a := fun q => by have := (q ▸ h.lay.ns_0.1 : cOk 3 M a).uniq h.nod.1; omega
  have n1 := h.put (k := 7) (by decide) (cI M A.ns 6)
  have e1 : cI (cP 4 M a 7 (.int (cI M A.ns 6))) A.ns 5 = cI M A.ns 5 := cI_put_ne (Or.inl o3)
  have n2 := n1.put (k := 8) (by decide) (cI M A.ns 5)
  have e2 : cI (cP 4 (cP 4 M a 7 (.int (cI M A.ns 6))) a 8 (.int (cI M A.ns 5))) A.ns 5 = cI M A.ns 5 := by rw [cI_put_ne (Or.inl o3)]; exact e1
  unfold S_Ns_giveReadyClauses F_Ns_giveReadyClauses
  simp only [Option.getD_some, e1, e2]
  refine ⟨⟨h.lay.ns_0.1, ⟨a, rfl, h.nod.1⟩, n1.lay.ns_0.1, ⟨a, rfl, n1.nod.1⟩, n2.lay.ns_0.1, n2.lay.ns_0.1, trivial⟩, ?_⟩
  have e3 : Ext [(3, 6)] [] false (cP 4 (cP 4 M a 7 (.int (cI M A.ns 6))) a 8 (.int (cI M A.ns 5))) (cP 3 (cP 4 (cP 4 M a 7 (.int (cI M A.ns 6))) a 8 (.int (cI M A.ns 5))) A.ns 6 (.int (cI M A.ns 5))) := (Ext.rf n2.lay.mok).putI 6 n2.lay.ns_0.1 (by decide) (by decide)
  exact ⟨n2.lay.ext e3 (by decide), n2.ns.putF n2.lay h.ns.c (Nat.le_refl _), n2.nod.ext e3 (by decide), fun i hi => by rw [e3.xaQ n2.lay.nn.1 (n2.lay.nno.notV (by decide))]; exact n2.ap i hi, n2.siz⟩
def CHand (cs : Nat → ClassId) (A : Ad) (M : gMem) (N C F : Nat) (nd cd : Nat → Nat → Int32) (good : Prop) (v : Nat → Int32) (w : Nat × Int32 × gMem) : Prop :=
  (¬ good → w.1 = 1 ∧ w.2.2 = gsk M) ∧ (good → N = 200 → w.1 = 2 ∧ w.2.2 = gsk M) ∧ (good → N < 200 → w.1 = 0 ∧ w.2.1.toInt = N ∧ Added cs A w.2.2 N C C nd cd v ((bodies cd F (C - F)).foldl (ms nd) (ms nd (ms nd (ms nd (1, 1) (v 4)) (v 5)) (v 6))) ∧ w.2.2.2 = (M.2.1 + 1, M.2.2 + 11))
theorem n_handle (L : Lay cs A M) (h : NsIs A M N C F nd cd) (hb : NdB N nd) (hbod : ∀ j, j < C → Pn N (cd j 3)) (hl : M.2.1 + 1 ≤ lim.1 ∧ M.2.2 + 11 ≤ lim.2) {n : Nat} (hn : 50 ≤ n) (x1 x2 x3 x4 : Int32) : S_N_handle cs lim n M A.x x1 x2 x3 x4 ∧ CHand cs A M N C F nd cd (Is N x1 ∧ Is 256 x2 ∧ Nm x3 ∧ Is N x4) (updL (fun _ => 0) (initL 8 ++ [(1, x2), (2, x3), (4, x1), (5, x4), (7, cI M A.ns 6), (8, cI M A.ns 5)])) (F_N_handle cs n M A.x x1 x2 x3 x4) := by
  have hl6 : M.2.1 + 1 ≤ lim.1 ∧ M.2.2 + 6 ≤ lim.2 := ⟨hl.1, by omega⟩
  have hN0 := h.hn
  obtain ⟨s0, v0⟩ := n_node L h hl6 x1
  obtain ⟨s1, v1⟩ := n_row (cs := cs) hl6 x2
  obtain ⟨s2, v2⟩ := n_name (cs := cs) hl6 x3
  obtain ⟨s3, v3⟩ := n_node L h hl6 x4
  obtain ⟨sr, vr⟩ := n_room L h hl6
  have z1 : ¬ (1 : Nat) = 0 := by decide
  have z2 : ¬ (2 : Nat) = 0 := by decide
  unfold S_N_handle F_N_handle CHand
  simp only [mbind_eq, v0, v1, v2, v3, vr]
  by_cases c0 : Is N x1
  · simp only [if_pos c0, if_pos]
    by_cases c1 : Is 256 x2
    · simp only [if_pos c1, if_pos]
      by_cases c2 : Nm x3
      · simp only [if_pos c2, if_pos]
        by_cases c3 : Is N x4
        · simp only [if_pos c3, if_pos]
          by_cases hN : N < 200
          · simp only [if_pos hN, if_pos]
            have n0 := NewN.new L h
            have si := init_S (lim := lim) n0 8
            have m0 : NewN cs A (F_No_init cs (gnw M (1, .inr (4, [.int 0, .int 0, .int 0, .int 0, .int 0, .int 0, .int 0, .int 0, .int 0, .int 0, .int 0])) 11) M.2.1 8) N C F nd cd M.2.1 (updL (fun _ => 0) (initL 8)) (M.2.1 + 1, M.2.2 + 11) := n0.puts (l := initL 8) (by decide)
            have e6 : cI (F_No_init cs (gnw M (1, .inr (4, [.int 0, .int 0, .int 0, .int 0, .int 0, .int 0, .int 0, .int 0, .int 0, .int 0, .int 0])) 11) M.2.1 8) A.ns 6 = cI M A.ns 6 := Int32.toInt_inj.mp (m0.ns.f.trans h.f.symm)
            have e5 : cI (F_No_init cs (gnw M (1, .inr (4, [.int 0, .int 0, .int 0, .int 0, .int 0, .int 0, .int 0, .int 0, .int 0, .int 0, .int 0])) 11) M.2.1 8) A.ns 5 = cI M A.ns 5 := Int32.toInt_inj.mp (m0.ns.c.trans h.c.symm)
            generalize F_No_init cs (gnw M (1, .inr (4, [.int 0, .int 0, .int 0, .int 0, .int 0, .int 0, .int 0, .int 0, .int 0, .int 0, .int 0])) 11) M.2.1 8 = M1 at m0 e5 e6 ⊢
            have m1 := m0.put (k := 1) (by decide) x2
            have m2 := m1.put (k := 2) (by decide) x3
            have m3 := m2.put (k := 4) (by decide) x1
            have m4 := m3.put (k := 5) (by decide) x4
            have ex := m4.lay.x_ns.2
            obtain ⟨sg, m5⟩ := ns_give (lim := lim) m4
            have f6 := m4.ns.f.trans h.f.symm
            have f5 := m4.ns.c.trans h.c.symm
            rw [Int32.toInt_inj.mp f6, Int32.toInt_inj.mp f5] at m5
            simp only [ex, Option.getD_some]
            generalize F_Ns_giveReadyClauses cs (cP 4 (cP 4 (cP 4 (cP 4 M1 M.2.1 1 (.int x2)) M.2.1 2 (.int x3)) M.2.1 4 (.int x1)) M.2.1 5 (.int x4)) A.ns (some M.2.1) = M2 at m5 ⊢
            have ex5 := m5.lay.x_ns.2
            simp only [ex5, Option.getD_some]
            obtain ⟨sa, ea, ra⟩ := ns_add (lim := lim) m5.lay m5.ns hb hN (m5.begun rfl rfl) m5.ap (Pn.of c0) (Pn.of c3) Pn.no (f := F) (t := C) h.f h.c h.hf (Nat.le_refl _) hbod hn
            have xa := x_Ns_add cs lim n _ _ _ m5.lay.mok sa
            exact ⟨⟨L.x_ns.1, s0, s1, s2, L.x_ns.1, s3, L.x_ns.1, sr, hl, si, m0.nod.1, m1.nod.1, m2.nod.1, m3.nod.1, m4.lay.x_ns.1, ⟨_, rfl, m4.lay.ns_0.1⟩, sg, m5.lay.x_ns.1, ⟨_, rfl, m5.lay.ns_0.1⟩, sa, trivial⟩, fun g => absurd ⟨c0, c1, c2, c3⟩ g, fun _ g => absurd g (by omega), fun _ _ => ⟨trivial, ea, ra, (xa.sz.2.2 rfl).trans m5.siz⟩⟩
          · simp only [if_neg hN, if_neg z2]
            exact ⟨⟨L.x_ns.1, s0, s1, s2, L.x_ns.1, s3, L.x_ns.1, sr, trivial⟩, fun g => absurd ⟨c0, c1, c2, c3⟩ g, fun _ _ => ⟨trivial, trivial⟩, fun _ g => absurd g hN⟩
        · simp only [if_neg c3, if_neg z1]
          exact ⟨⟨L.x_ns.1, s0, s1, s2, L.x_ns.1, s3, trivial⟩, fun _ => ⟨trivial, trivial⟩, fun g => absurd g.2.2.2 c3, fun g => absurd g.2.2.2 c3⟩
      · simp only [if_neg c2, if_neg z1]
        exact ⟨⟨L.x_ns.1, s0, s1, s2, trivial⟩, fun _ => ⟨trivial, trivial⟩, fun g => absurd g.2.2.1 c2, fun g => absurd g.2.2.1 c2⟩
    · simp only [if_neg c1, if_neg z1]
      exact ⟨⟨L.x_ns.1, s0, s1, trivial⟩, fun _ => ⟨trivial, trivial⟩, fun g => absurd g.2.1 c1, fun g => absurd g.2.1 c1⟩
  · simp only [if_neg c0, if_neg z1]
    exact ⟨⟨L.x_ns.1, s0, trivial⟩, fun _ => ⟨trivial, trivial⟩, fun g => absurd g.1 c0, fun g => absurd g.1 c0⟩
end
end
section
/-! pure rows, the class: clause -/
section
variable {cs : Nat → ClassId} {lim : Nat × Nat} {A : Ad} {M : gMem} {N C F : Nat} {nd cd : Nat → Nat → Int32}
def CClau (A : Ad) (M : gMem) (N C F : Nat) (nd cd : Nat → Nat → Int32) (good : Prop) (v : Nat → Int32) (w : Nat × Int32 × gMem) : Prop :=
  (¬ good → w.1 = 1 ∧ w.2.2 = gsk M) ∧ (good → C = 40 → w.1 = 2 ∧ w.2.2 = gsk M) ∧ (good → C < 40 → w.1 = 0 ∧ w.2.1.toInt = C + 1 - F ∧ NsIs A w.2.2 N (C + 1) F nd (fun j => if j = C then v else cd j) ∧ w.2.2.2 = (M.2.1 + 1, M.2.2 + 4))
theorem n_clause (L : Lay cs A M) (h : NsIs A M N C F nd cd) (hl : M.2.1 + 1 ≤ lim.1 ∧ M.2.2 + 6 ≤ lim.2) (x1 x2 x3 x4 : Int32) : S_N_clause cs lim M A.x x1 x2 x3 x4 ∧ CClau A M N C F nd cd (Is 8 x1 ∧ Nm x2 ∧ Nm x3 ∧ Is N x4) (fun k => if k = 0 then x1 else if k = 1 then x2 else if k = 2 then x3 else x4) (F_N_clause cs M A.x x1 x2 x3 x4) := by
  obtain ⟨s0, v0⟩ := n_effect (cs := cs) hl x1
  obtain ⟨s1, v1⟩ := n_name (cs := cs) hl x2
  obtain ⟨s2, v2⟩ := n_name (cs := cs) hl x3
  obtain ⟨s3, v3⟩ := n_node L h hl x4
  have z1 : ¬ (1 : Nat) = 0 := by decide
  have y1 : ¬ (1 : Int32) = 0 := by decide
  have hcc := h.c
  have hC0 := h.hc
  have hff := h.f
  have hF := h.hf
  unfold S_N_clause F_N_clause CClau S_Ns_hasRoomForClause F_Ns_hasRoomForClause
  simp only [mbind_eq, v0, v1, v2, v3, L.x_ns.2, Option.getD_some]
  by_cases c0 : Is 8 x1
  · simp only [if_pos c0, if_pos]
    by_cases c1 : Nm x2
    · simp only [if_pos c1, if_pos]
      by_cases c2 : Nm x3
      · simp only [if_pos c2, if_pos]
        by_cases c3 : Is N x4
        · simp only [if_pos c3, if_pos]
          by_cases hC : C < 40
          · have hr : ¬ 40 ≤ cI M A.ns 5 := by ((try (simp only [vp_in, Int32.toNatClampNeg, Int32.lt_iff_toInt_lt, Int32.le_iff_toInt_le, ← Int32.toInt_inj, Int32.toInt_add, Int32.toInt_sub, Int32.toInt_mul, Int32.reduceToInt, i32_neg1, Nat.reducePow, Int.reducePow, ne_eq, ge_iff_le, gt_iff_lt] at *)) <;> (first | omega | ((simp (disch := omega) only [bm32] at *) <;> omega)))
            simp only [if_neg hr, if_neg y1]
            -- the new clause
            have e0 : Ext [] [] true M (gnw M (1, .inr (5, [.int 0, .int 0, .int 0, .int 0])) 4) := (Ext.rf L.mok).newO (by decide)
            have o0 : cOk 5 (gnw M (1, .inr (5, [.int 0, .int 0, .int 0, .int 0])) 4) M.2.1 := ⟨_, gnw_s, by decide, by
              intro k hk
              have hk' : k < 4 := hk
              have hz : ∀ k, k < 4 → ([.int 0, .int 0, .int 0, .int 0] : List Value)[k]? = some (.int 0) := by decide
              exact ⟨fun z => (ckd5 hk' z).elim, fun _ => ⟨0, hz k hk'⟩⟩⟩
            have L0 := L.ext e0 (by decide)
            have h0 := h.ext L e0 (by decide) (by decide) (by decide)
            generalize hM0 : gnw M (1, .inr (5, [.int 0, .int 0, .int 0, .int 0])) 4 = M0 at e0 o0 L0 h0 ⊢
            have hs0 : M0.2 = (M.2.1 + 1, M.2.2 + 4) := by rw [← hM0]; rfl
            generalize hb : M.2.1 = b at o0 hs0 ⊢
            -- its four fields
            have p1 : cOk 5 (cP 5 M0 b 0 (.int x1)) b := cOk_putI (by decide) o0 o0
            have p2 : cOk 5 (cP 5 (cP 5 M0 b 0 (.int x1)) b 1 (.int x2)) b := cOk_putI (by decide) p1 p1
            have p3 : cOk 5 (cP 5 (cP 5 (cP 5 M0 b 0 (.int x1)) b 1 (.int x2)) b 2 (.int x3)) b := cOk_putI (by decide) p2 p2
            have p4 : cOk 5 (cP 5 (cP 5 (cP 5 (cP 5 M0 b 0 (.int x1)) b 1 (.int x2)) b 2 (.int x3)) b 3 (.int x4)) b := cOk_putI (by decide) p3 p3
            have eI : Ext [(5, 0), (5, 1), (5, 2), (5, 3)] [] false M0 (F_Cl_init cs M0 b x1 x2 x3 x4) := x_Cl_init cs lim M0 b x1 x2 x3 x4 L0.mok ⟨o0, p1, p2, p3, trivial⟩
            have L1 := L0.ext eI (by decide)
            have rd : ∀ c, c ≠ b → (F_Cl_init cs M0 b x1 x2 x3 x4).1 c = M0.1 c := fun c hc => by
              unfold F_Cl_init cP
              rw [gup_n hc, gup_n hc, gup_n hc, gup_n hc]
            have cv : ClauseAt (F_Cl_init cs M0 b x1 x2 x3 x4) b (fun k => if k = 0 then x1 else if k = 1 then x2 else if k = 2 then x3 else x4) := by
              refine ⟨p4, fun k hk => ?_⟩
              unfold F_Cl_init
              have : k = 0 ∨ k = 1 ∨ k = 2 ∨ k = 3 := by omega
              rcases this with rfl | rfl | rfl | rfl
              · rw [cI_put_ne (Or.inr (by decide)), cI_put_ne (Or.inr (by decide)), cI_put_ne (Or.inr (by decide)), cI_put o0 (by decide)]; rfl
              · rw [cI_put_ne (Or.inr (by decide)), cI_put_ne (Or.inr (by decide)), cI_put p1 (by decide)]; rfl
              · rw [cI_put_ne (Or.inr (by decide)), cI_put p2 (by decide)]; rfl
              · rw [cI_put p3 (by decide)]; rfl
            have hs1 : (F_Cl_init cs M0 b x1 x2 x3 x4).2 = (b + 1, M.2.2 + 4) := hs0
            generalize F_Cl_init cs M0 b x1 x2 x3 x4 = M1 at eI L1 rd cv hs1 ⊢
            have ob : ∀ {ci c}, ci ≠ 5 → cOk ci M0 c → c ≠ b := fun hci hc q => hci ((q ▸ hc).uniq o0)
            have onb : A.nn ≠ b := fun q => o0.notQ (q ▸ L0.nn.1)
            have ocb : A.cl ≠ b := fun q => o0.notQ (q ▸ L0.cl.1)
            have osb : A.ns ≠ b := ob (by decide) L0.ns_0.1
            have clb : ∀ j, j < C → aQ M0 A.cl j ≠ some b := fun j hj q => by
              obtain ⟨c, z1, z2⟩ := h.cls j hj
              have : aQ M0 A.cl = aQ M A.cl := e0.xaQ L.cl.1 (L.clo.notV (by decide))
              rw [this, z1] at q
              cases q
              exact absurd (z2.1.lt L.mok) (by omega)
            have k5 : cI M1 A.ns 5 = cI M A.ns 5 := (cI_cong (rd _ osb)).trans (Int32.toInt_inj.mp (h0.c.trans h.c.symm))
            have k6 : cI M1 A.ns 6 = cI M A.ns 6 := (cI_cong (rd _ osb)).trans (Int32.toInt_inj.mp (h0.f.trans h.f.symm))
            have k4 : cI M1 A.ns 4 = cI M A.ns 4 := (cI_cong (rd _ osb)).trans (Int32.toInt_inj.mp (h0.n.trans h.n.symm))
            have hci : (cI M A.ns 5).toNatClampNeg = C := by ((try (simp only [vp_in, Int32.toNatClampNeg, Int32.lt_iff_toInt_lt, Int32.le_iff_toInt_le, ← Int32.toInt_inj, Int32.toInt_add, Int32.toInt_sub, Int32.toInt_mul, Int32.reduceToInt, i32_neg1, Nat.reducePow, Int.reducePow, ne_eq, ge_iff_le, gt_iff_lt] at *)) <;> (first | omega | ((simp (disch := omega) only [bm32] at *) <;> omega)))
            -- into the table
            unfold S_Ns_makeReady F_Ns_makeReady S_Ns_hasRoomForClause F_Ns_hasRoomForClause
            simp only [mbind_eq, k5, if_neg hr, if_neg y1, L1.ns_1.2, Option.getD_some, hci]
            have onc : A.nn ≠ A.cl := fun q => by have := L1.nn.2; have := L1.cl.2; rw [q] at *; omega
            have osc : A.ns ≠ A.cl := fun q => L1.ns_0.1.notQ (q ▸ L1.cl.1)
            generalize hM2 : aPq (cs 4) M1 A.cl C (some b) = M2
            have r2 : ∀ c, c ≠ A.cl → M2.1 c = M1.1 c := fun c hc => by rw [← hM2]; unfold aPq; exact gup_n hc
            have q2 : aQ M2 A.cl = va_up (aQ M1 A.cl) C (some b) := by
              have : M2.1 A.cl = some (1, .inl (cs 4, aL M1 A.cl, .inr (.inr (.inr (.inr (va_up (aQ M1 A.cl) C (some b))))))) := by rw [← hM2]; unfold aPq; exact gup_s
              exact (aQ_of this).2
            have o2 : cOk 3 M2 A.ns := (cOk_cong (r2 _ osc)).mpr L1.ns_0.1
            have k5' : cI M2 A.ns 5 = cI M A.ns 5 := (cI_cong (r2 _ osc)).trans k5
            have k6' : cI M2 A.ns 6 = cI M A.ns 6 := (cI_cong (r2 _ osc)).trans k6
            have k4' : cI M2 A.ns 4 = cI M A.ns 4 := (cI_cong (r2 _ osc)).trans k4
            rw [k5']
            generalize hM3 : cP 3 M2 A.ns 5 (.int (cI M A.ns 5 + 1)) = M3
            have r3 : ∀ c, c ≠ A.ns → M3.1 c = M2.1 c := fun c hc => by rw [← hM3]; unfold cP; exact gup_n hc
            have o3 : cOk 3 M3 A.ns := by rw [← hM3]; exact cOk_putI (by decide) o2 o2
            have j5 : cI M3 A.ns 5 = cI M A.ns 5 + 1 := by rw [← hM3]; exact cI_put o2 (by decide)
            have j6 : cI M3 A.ns 6 = cI M A.ns 6 := by rw [← hM3, cI_put_ne (Or.inr (by decide))]; exact k6'
            have j4 : cI M3 A.ns 4 = cI M A.ns 4 := by rw [← hM3, cI_put_ne (Or.inr (by decide))]; exact k4'
            have hs3 : M3.2 = (b + 1, M.2.2 + 4) := by rw [← hM3, ← hM2]; exact hs1
            have hn4 := h.n
            have far : ∀ {ci c}, ci ≠ 3 → cOk ci M1 c → M3.1 c = M1.1 c := fun {ci c} hci hc => by
              rw [r3 c (fun q => hci ((q ▸ hc : cOk ci M1 A.ns).uniq L1.ns_0.1)), r2 c (fun q => hc.notQ (q ▸ L1.cl.1))]
            refine ⟨⟨s0, s1, s2, L.x_ns.1, s3, L.x_ns.1, ⟨_, rfl, L.ns_0.1⟩, ⟨L.ns_0.1, trivial⟩, L.x_ns.1, ⟨by omega, by omega⟩, ⟨o0, p1, p2, p3, trivial⟩, ⟨_, rfl, L1.ns_0.1⟩, ⟨L1.ns_0.1, ⟨L1.ns_0.1, trivial⟩, L1.ns_0.1, L1.ns_0.1, ⟨trivial, L1.cl.1⟩, by rw [L1.cl.2]; ((try (simp only [vp_in, Int32.toNatClampNeg, Int32.lt_iff_toInt_lt, Int32.le_iff_toInt_le, ← Int32.toInt_inj, Int32.toInt_add, Int32.toInt_sub, Int32.toInt_mul, Int32.reduceToInt, i32_neg1, Nat.reducePow, Int.reducePow, ne_eq, ge_iff_le, gt_iff_lt] at *)) <;> (first | omega | ((simp (disch := omega) only [bm32] at *) <;> omega))), Or.inr ⟨b, rfl, cv.1⟩, o2, o2, o3, o3, trivial⟩, trivial⟩, fun g => absurd ⟨c0, c1, c2, c3⟩ g, fun _ g => absurd g (by omega), fun _ _ => ⟨trivial, ?_, ⟨?_, h.hn, ?_, by omega, ?_, by omega, fun i hi => ?_, fun j hj => ?_⟩, hs3⟩⟩
            · rw [j5, j6]; ((try (simp only [vp_in, Int32.toNatClampNeg, Int32.lt_iff_toInt_lt, Int32.le_iff_toInt_le, ← Int32.toInt_inj, Int32.toInt_add, Int32.toInt_sub, Int32.toInt_mul, Int32.reduceToInt, i32_neg1, Nat.reducePow, Int.reducePow, ne_eq, ge_iff_le, gt_iff_lt] at *)) <;> (first | omega | ((simp (disch := omega) only [bm32] at *) <;> omega)))
            · rw [j4]; exact h.n
            · rw [j5]; ((try (simp only [vp_in, Int32.toNatClampNeg, Int32.lt_iff_toInt_lt, Int32.le_iff_toInt_le, ← Int32.toInt_inj, Int32.toInt_add, Int32.toInt_sub, Int32.toInt_mul, Int32.reduceToInt, i32_neg1, Nat.reducePow, Int.reducePow, ne_eq, ge_iff_le, gt_iff_lt] at *)) <;> (first | omega | ((simp (disch := omega) only [bm32] at *) <;> omega)))
            · rw [j6]; exact h.f
            · obtain ⟨c, z1, z2⟩ := h0.nds i hi
              have hcb := ob (by decide) z2.1
              have oc1 : cOk 4 M1 c := (cOk_cong (rd _ hcb)).mpr z2.1
              refine ⟨c, ?_, (cOk_cong (far (by decide) oc1)).mpr oc1, fun k hk => ?_⟩
              · rw [aQ_cong (r3 _ (fun q => L1.ns_0.1.notQ (q ▸ L1.nn.1))), aQ_cong (r2 _ onc), aQ_cong (rd _ onb)]; exact z1
              · rw [cI_cong (far (by decide) oc1), cI_cong (rd _ hcb)]; exact z2.2 k hk
            · have eq : aQ M3 A.cl = va_up (aQ M0 A.cl) C (some b) := by
                rw [aQ_cong (r3 _ (Ne.symm osc)), q2, aQ_cong (rd _ ocb)]
              rw [eq]
              unfold va_up
              dsimp only
              by_cases hjC : j = C
              · rw [if_pos hjC, if_pos hjC]
                exact ⟨b, rfl, (cOk_cong (far (by decide) cv.1)).mpr cv.1, fun k hk => (cI_cong (far (by decide) cv.1)).trans (cv.2 k hk)⟩
              · rw [if_neg hjC, if_neg hjC]
                obtain ⟨c, z1, z2⟩ := h0.cls j (by omega)
                have hcb : c ≠ b := fun q => clb j (by omega) (q ▸ z1)
                have oc1 : cOk 5 M1 c := (cOk_cong (rd _ hcb)).mpr z2.1
                exact ⟨c, z1, (cOk_cong (far (by decide) oc1)).mpr oc1, fun k hk => by rw [cI_cong (far (by decide) oc1), cI_cong (rd _ hcb)]; exact z2.2 k hk⟩
          · have hr : 40 ≤ cI M A.ns 5 := by ((try (simp only [vp_in, Int32.toNatClampNeg, Int32.lt_iff_toInt_lt, Int32.le_iff_toInt_le, ← Int32.toInt_inj, Int32.toInt_add, Int32.toInt_sub, Int32.toInt_mul, Int32.reduceToInt, i32_neg1, Nat.reducePow, Int.reducePow, ne_eq, ge_iff_le, gt_iff_lt] at *)) <;> (first | omega | ((simp (disch := omega) only [bm32] at *) <;> omega)))
            simp only [if_pos hr, if_pos]
            exact ⟨⟨s0, s1, s2, L.x_ns.1, s3, L.x_ns.1, ⟨_, rfl, L.ns_0.1⟩, ⟨L.ns_0.1, trivial⟩, hl, trivial⟩, fun g => absurd ⟨c0, c1, c2, c3⟩ g, fun _ _ => ⟨trivial, trivial⟩, fun _ g => absurd g hC⟩
        · simp only [if_neg c3, if_neg z1]
          exact ⟨⟨s0, s1, s2, L.x_ns.1, s3, trivial⟩, fun _ => ⟨trivial, trivial⟩, fun g => absurd g.2.2.2 c3, fun g => absurd g.2.2.2 c3⟩
      · simp only [if_neg c2, if_neg z1]
        exact ⟨⟨s0, s1, s2, trivial⟩, fun _ => ⟨trivial, trivial⟩, fun g => absurd g.2.2.1 c2, fun g => absurd g.2.2.1 c2⟩
    · simp only [if_neg c1, if_neg z1]
      exact ⟨⟨s0, s1, trivial⟩, fun _ => ⟨trivial, trivial⟩, fun g => absurd g.2.1 c1, fun g => absurd g.2.1 c1⟩
  · simp only [if_neg c0, if_neg z1]
    exact ⟨⟨s0, trivial⟩, fun _ => ⟨trivial, trivial⟩, fun g => absurd g.1 c0, fun g => absurd g.1 c0⟩
end
end
section
/-! pure rows, the class: function, effect, type, fits -/
section
variable {cs : Nat → ClassId} {lim : Nat × Nat} {A : Ad} {M : gMem} {τ : TT} {K : Nat}
theorem TyA.suits (L : Lay cs A M) (h : TyA cs A M τ K) {x y : Int32} {a b : Nat} (hx : x.toInt = a) (hy : y.toInt = b) (ha : a < 3 + τ.length) (hb : b < 3 + τ.length) : S_Ty_suits cs lim M A.ty x y ∧ ((F_Ty_suits cs M A.ty x y = 1 ∧ suit τ a b) ∨ (F_Ty_suits cs M A.ty x y = 0 ∧ ¬ suit τ a b)) := by
  obtain ⟨g0, g1, g2, g3, k0, k1, k2, k3, c, r, -⟩ := h.ex
  have hl := c.len
  obtain ⟨s, v⟩ := ty_suits (lim := lim) L c hx hy (by omega) (by omega)
  have := suit_uniq c.wt (fit := fitC g3) r (a + b) a b (Nat.le_refl _) ha hb
  rw [this] at v
  exact ⟨s, v⟩
theorem TyA.parts (L : Lay cs A M) (h : TyA cs A M τ K) {x : Int32} {t : Nat} (hx : x.toInt = t) (h3 : 3 ≤ t) (ht : t < 3 + τ.length) : (S_Ty_argumentOf cs lim M A.ty x ∧ (F_Ty_argumentOf cs M A.ty x).toInt = tA τ t) ∧ (S_Ty_resultOf cs lim M A.ty x ∧ (F_Ty_resultOf cs M A.ty x).toInt = tR τ t) ∧ S_Ty_rowOf cs lim M A.ty x ∧ F_Ty_rowOf cs M A.ty x = tW τ t := by
  obtain ⟨g0, g1, g2, g3, k0, k1, k2, k3, c, r, -⟩ := h.ex
  obtain ⟨e0, e1, e2⟩ := c.g t h3 ht
  obtain ⟨s0, v0⟩ := ce_nat (lim := lim) c.c0 hx
  obtain ⟨s1, v1⟩ := ce_nat (lim := lim) c.c1 hx
  obtain ⟨s2, v2⟩ := ce_nat (lim := lim) c.c2 hx
  unfold S_Ty_argumentOf F_Ty_argumentOf S_Ty_resultOf F_Ty_resultOf S_Ty_rowOf F_Ty_rowOf
  simp only [L.ty_0.2, L.ty_1.2, L.ty_2.2, Option.getD_some, mbind_eq, v0, v1, v2]
  exact ⟨⟨⟨L.ty_0.1, ⟨_, rfl, c.c0.ok⟩, s0, trivial⟩, e0⟩, ⟨⟨L.ty_0.1, ⟨_, rfl, c.c1.ok⟩, s1, trivial⟩, e1⟩, ⟨L.ty_0.1, ⟨_, rfl, c.c2.ok⟩, s2, trivial⟩, e2⟩
theorem TyA.xfind (L : Lay cs A M) (h : TyA cs A M τ K) {x1 x2 x3 : Int32} {a b : Nat} (h1 : x1.toInt = a) (h2 : x2.toInt = b) {n : Nat} (hn : 600 ≤ n) : S_Ty_find cs lim n M A.ty x1 x2 x3 ∧ ((∃ j, find (a, b, x3) τ 3 = some j ∧ (F_Ty_find cs n M A.ty x1 x2 x3).toInt = j) ∨ (find (a, b, x3) τ 3 = none ∧ F_Ty_find cs n M A.ty x1 x2 x3 = -1)) := by
  obtain ⟨g0, g1, g2, g3, k0, k1, k2, k3, c, r, -⟩ := h.ex
  exact ty_find L c h.cnt h1 h2 hn
def CFun (cs : Nat → ClassId) (A : Ad) (M : gMem) (τ : TT) (K : Nat) (x1 x2 x3 : Int32) (w : Nat × Int32 × gMem) : Prop := (¬ FuG (3 + τ.length) x1 x2 x3 → w.1 = 1 ∧ w.2.2 = gsk M) ∧ (FuG (3 + τ.length) x1 x2 x3 → (number τ (x1.toInt.toNat, x2.toInt.toNat, x3)).2.length ≤ 60 → w.1 = 0 ∧ w.2.1.toInt = (number τ (x1.toInt.toNat, x2.toInt.toNat, x3)).1 ∧ ∃ K', TyA cs A w.2.2 (number τ (x1.toInt.toNat, x2.toInt.toNat, x3)).2 K' ∧ Ext [(1, 4), (2, 0)] [(2, 0)] true M w.2.2 ∧ Pot M w.2.2 K K' ∧ ∀ g k, CeIs cs M A.c4 g k → CeIs cs w.2.2 A.c4 g k) ∧ (FuG (3 + τ.length) x1 x2 x3 → ¬ (number τ (x1.toInt.toNat, x2.toInt.toNat, x3)).2.length ≤ 60 → w.1 = 2 ∧ w.2.2 = gsk M)
theorem CFun.no {cs : Nat → ClassId} {A : Ad} {M : gMem} {τ : TT} {K : Nat} {x1 x2 x3 : Int32} {w : Nat × Int32 × gMem} (self : CFun cs A M τ K x1 x2 x3 w) : ¬ FuG (3 + τ.length) x1 x2 x3 → w.1 = 1 ∧ w.2.2 = gsk M := self.1
theorem CFun.ok {cs : Nat → ClassId} {A : Ad} {M : gMem} {τ : TT} {K : Nat} {x1 x2 x3 : Int32} {w : Nat × Int32 × gMem} (self : CFun cs A M τ K x1 x2 x3 w) : FuG (3 + τ.length) x1 x2 x3 → (number τ (x1.toInt.toNat, x2.toInt.toNat, x3)).2.length ≤ 60 → w.1 = 0 ∧ w.2.1.toInt = (number τ (x1.toInt.toNat, x2.toInt.toNat, x3)).1 ∧ ∃ K', TyA cs A w.2.2 (number τ (x1.toInt.toNat, x2.toInt.toNat, x3)).2 K' ∧ Ext [(1, 4), (2, 0)] [(2, 0)] true M w.2.2 ∧ Pot M w.2.2 K K' ∧ ∀ g k, CeIs cs M A.c4 g k → CeIs cs w.2.2 A.c4 g k := self.2.1
theorem CFun.full {cs : Nat → ClassId} {A : Ad} {M : gMem} {τ : TT} {K : Nat} {x1 x2 x3 : Int32} {w : Nat × Int32 × gMem} (self : CFun cs A M τ K x1 x2 x3 w) : FuG (3 + τ.length) x1 x2 x3 → ¬ (number τ (x1.toInt.toNat, x2.toInt.toNat, x3)).2.length ≤ 60 → w.1 = 2 ∧ w.2.2 = gsk M := self.2.2
theorem n_function (L : Lay cs A M) (h : TyA cs A M τ K) (hr : Rm lim M K) (h60 : τ.length ≤ 60) {n : Nat} (hn : 600 ≤ n) (x1 x2 x3 : Int32) : S_N_function cs lim n M A.x x1 x2 x3 ∧ CFun cs A M τ K x1 x2 x3 (F_N_function cs n M A.x x1 x2 x3) := by
  have hK := h.Kb
  have hl6 : M.2.1 + 1 ≤ lim.1 ∧ M.2.2 + 6 ≤ lim.2 := by obtain ⟨a, b⟩ := hr; omega
  obtain ⟨s0, v0⟩ := n_type L h.cnt hl6 x1
  obtain ⟨s1, v1⟩ := n_type L h.cnt hl6 x2
  obtain ⟨s2, v2⟩ := n_row (cs := cs) hl6 x3
  have z1 : ¬ (1 : Nat) = 0 := by decide
  have bad : ∀ {k : Int32}, ¬ FuG (3 + τ.length) x1 x2 x3 → CFun cs A M τ K x1 x2 x3 (1, k, gsk M) := fun g => ⟨fun _ => ⟨rfl, rfl⟩, fun q => absurd q g, fun q => absurd q g⟩
  unfold S_N_function F_N_function
  simp only [mbind_eq, v0, v1, v2, L.x_ty.2, Option.getD_some]
  by_cases c0 : Is (3 + τ.length) x1
  · simp only [if_pos c0, if_pos]
    by_cases c1 : Is (3 + τ.length) x2
    · simp only [if_pos c1, if_pos]
      by_cases c2 : Is 256 x3
      · simp only [if_pos c2, if_pos]
        have g : FuG (3 + τ.length) x1 x2 x3 := by unfold FuG Is at *; omega
        have e1 : x1.toInt = (x1.toInt.toNat : Nat) := by have := c0.1; omega
        have e2 : x2.toInt = (x2.toInt.toNat : Nat) := by have := c1.1; omega
        obtain ⟨sf, rf⟩ := h.xfind (lim := lim) L (x3 := x3) e1 e2 hn
        have hcn := h.cnt
        rcases rf with ⟨j, hj, hw⟩ | ⟨hj, hw⟩
        · have hne : ¬ F_Ty_find cs n M A.ty x1 x2 x3 = -1 := by ((try (simp only [vp_in, Int32.toNatClampNeg, Int32.lt_iff_toInt_lt, Int32.le_iff_toInt_le, ← Int32.toInt_inj, Int32.toInt_add, Int32.toInt_sub, Int32.toInt_mul, Int32.reduceToInt, i32_neg1, Nat.reducePow, Int.reducePow, ne_eq, ge_iff_le, gt_iff_lt] at *)) <;> (first | omega | ((simp (disch := omega) only [bm32] at *) <;> omega)))
          simp only [if_neg hne]
          have en : number τ (x1.toInt.toNat, x2.toInt.toNat, x3) = (j, τ) := by unfold number; rw [hj]
          refine ⟨⟨L.x_ty.1, s0, L.x_ty.1, s1, s2, L.x_ty.1, ⟨_, rfl, L.ty_0.1⟩, sf, trivial⟩, fun q => absurd g q, fun _ _ => ?_, fun _ q => absurd h60 (by rw [en] at q; exact q)⟩
          rw [en]
          exact ⟨rfl, hw, K, h, Ext.rf L.mok, Pot.rf, fun _ _ z => z⟩
        · simp only [if_pos hw]
          have en : number τ (x1.toInt.toNat, x2.toInt.toNat, x3) = (3 + τ.length, τ ++ [(x1.toInt.toNat, x2.toInt.toNat, x3)]) := by unfold number; rw [hj]
          have hlen : (number τ (x1.toInt.toNat, x2.toInt.toNat, x3)).2.length = τ.length + 1 := by rw [en]; simp
          unfold S_Ty_functions F_Ty_functions
          by_cases hf : cI M A.ty 4 - 3 < 60
          · simp only [if_pos hf]
            obtain ⟨sn, en1, K', q1, q2, q3, q4⟩ := ty_numberOf L h hr (by omega) e1 (by have := c0.2; omega) e2 (by have := c1.2; omega) (x3 := x3) hn
            exact ⟨⟨L.x_ty.1, s0, L.x_ty.1, s1, s2, L.x_ty.1, ⟨_, rfl, L.ty_0.1⟩, sf, L.x_ty.1, ⟨_, rfl, L.ty_0.1⟩, ⟨L.ty_0.1, trivial⟩, L.x_ty.1, ⟨_, rfl, L.ty_0.1⟩, sn, trivial⟩, fun q => absurd g q, fun _ _ => ⟨rfl, en1, K', q1, q2, q3, q4⟩, fun _ q => absurd (show _ ≤ 60 by rw [hlen]; ((try (simp only [vp_in, Int32.toNatClampNeg, Int32.lt_iff_toInt_lt, Int32.le_iff_toInt_le, ← Int32.toInt_inj, Int32.toInt_add, Int32.toInt_sub, Int32.toInt_mul, Int32.reduceToInt, i32_neg1, Nat.reducePow, Int.reducePow, ne_eq, ge_iff_le, gt_iff_lt] at *)) <;> (first | omega | ((simp (disch := omega) only [bm32] at *) <;> omega)))) q⟩
          · simp only [if_neg hf]
            exact ⟨⟨L.x_ty.1, s0, L.x_ty.1, s1, s2, L.x_ty.1, ⟨_, rfl, L.ty_0.1⟩, sf, L.x_ty.1, ⟨_, rfl, L.ty_0.1⟩, ⟨L.ty_0.1, trivial⟩, hl6, trivial⟩, fun q => absurd g q, fun _ q => absurd q (by rw [hlen]; ((try (simp only [vp_in, Int32.toNatClampNeg, Int32.lt_iff_toInt_lt, Int32.le_iff_toInt_le, ← Int32.toInt_inj, Int32.toInt_add, Int32.toInt_sub, Int32.toInt_mul, Int32.reduceToInt, i32_neg1, Nat.reducePow, Int.reducePow, ne_eq, ge_iff_le, gt_iff_lt] at *)) <;> (first | omega | ((simp (disch := omega) only [bm32] at *) <;> omega)))), fun _ _ => ⟨rfl, rfl⟩⟩
      · simp only [if_neg c2, if_neg z1]
        exact ⟨⟨L.x_ty.1, s0, L.x_ty.1, s1, s2, trivial⟩, bad (fun g => c2 (by unfold FuG Is at *; omega))⟩
    · simp only [if_neg c1, if_neg z1]
      exact ⟨⟨L.x_ty.1, s0, L.x_ty.1, s1, trivial⟩, bad (fun g => c1 (by unfold FuG Is at *; omega))⟩
  · simp only [if_neg c0, if_neg z1]
    exact ⟨⟨L.x_ty.1, s0, trivial⟩, bad (fun g => c0 (by unfold FuG Is at *; omega))⟩
theorem n_type_ (L : Lay cs A M) (h : TyA cs A M τ K) (x1 x2 : Int32) : S_N_type cs lim M A.x x1 x2 ∧ ((¬ FnT (3 + τ.length) x1 → F_N_type cs M A.x x1 x2 = -1) ∧ (FnT (3 + τ.length) x1 → (x2 = 0 → (F_N_type cs M A.x x1 x2).toInt = tA τ x1.toInt.toNat) ∧ (x2 = 1 → (F_N_type cs M A.x x1 x2).toInt = tR τ x1.toInt.toNat) ∧ (x2 = 2 → F_N_type cs M A.x x1 x2 = tW τ x1.toInt.toNat) ∧ (x2 ≠ 0 → x2 ≠ 1 → x2 ≠ 2 → F_N_type cs M A.x x1 x2 = -1))) := by
  obtain ⟨s0, v0⟩ := ty_isFunction (lim := lim) L h.cnt x1
  have y1 : ¬ (1 : Int32) = 0 := by decide
  unfold S_N_type F_N_type
  simp only [mbind_eq, L.x_ty.2, Option.getD_some, v0]
  by_cases c0 : FnT (3 + τ.length) x1
  · have c0' : 3 ≤ x1.toInt ∧ x1.toInt < 3 + τ.length := by unfold FnT at c0; omega
    simp only [if_pos c0', if_neg y1]
    obtain ⟨⟨p1, p2⟩, ⟨p3, p4⟩, p5, p6⟩ := h.parts (lim := lim) L (x := x1) (t := x1.toInt.toNat) (by omega) (by omega) (by omega)
    by_cases d0 : x2 = 0
    · simp only [if_pos d0]
      exact ⟨⟨L.x_ty.1, ⟨_, rfl, L.ty_0.1⟩, s0, L.x_ty.1, ⟨_, rfl, L.ty_0.1⟩, p1, trivial⟩, fun q => absurd c0 q, fun _ => ⟨fun _ => p2, fun q => absurd q (by rw [d0]; decide), fun q => absurd q (by rw [d0]; decide), fun q => absurd d0 q⟩⟩
    · by_cases d1 : x2 = 1
      · simp only [if_neg d0, if_pos d1]
        exact ⟨⟨L.x_ty.1, ⟨_, rfl, L.ty_0.1⟩, s0, L.x_ty.1, ⟨_, rfl, L.ty_0.1⟩, p3, trivial⟩, fun q => absurd c0 q, fun _ => ⟨fun q => absurd q d0, fun _ => p4, fun q => absurd q (by rw [d1]; decide), fun _ q => absurd d1 q⟩⟩
      · by_cases d2 : x2 = 2
        · simp only [if_neg d0, if_neg d1, if_pos d2]
          exact ⟨⟨L.x_ty.1, ⟨_, rfl, L.ty_0.1⟩, s0, L.x_ty.1, ⟨_, rfl, L.ty_0.1⟩, p5, trivial⟩, fun q => absurd c0 q, fun _ => ⟨fun q => absurd q d0, fun q => absurd q d1, fun _ => p6, fun _ _ q => absurd d2 q⟩⟩
        · simp only [if_neg d0, if_neg d1, if_neg d2]
          exact ⟨⟨L.x_ty.1, ⟨_, rfl, L.ty_0.1⟩, s0, trivial⟩, fun q => absurd c0 q, fun _ => ⟨fun q => absurd q d0, fun q => absurd q d1, fun q => absurd q d2, fun _ _ _ => trivial⟩⟩
  · have c0' : ¬ (3 ≤ x1.toInt ∧ x1.toInt < 3 + τ.length) := by unfold FnT at c0; omega
    simp only [if_neg c0', if_pos]
    exact ⟨⟨L.x_ty.1, ⟨_, rfl, L.ty_0.1⟩, s0, trivial⟩, fun _ => trivial, fun q => absurd q c0⟩
theorem n_fits (L : Lay cs A M) (h : TyA cs A M τ K) (x1 x2 : Int32) : S_N_fits cs lim M A.x x1 x2 ∧ ((F_N_fits cs M A.x x1 x2 = 1 ∧ Is (3 + τ.length) x1 ∧ Is (3 + τ.length) x2 ∧ suit τ x1.toInt.toNat x2.toInt.toNat) ∨ (F_N_fits cs M A.x x1 x2 = 0 ∧ ¬ (Is (3 + τ.length) x1 ∧ Is (3 + τ.length) x2 ∧ suit τ x1.toInt.toNat x2.toInt.toNat))) := by
  obtain ⟨s0, v0⟩ := ty_isType (lim := lim) L h.cnt x1
  obtain ⟨s1, v1⟩ := ty_isType (lim := lim) L h.cnt x2
  have y1 : ¬ (1 : Int32) = 0 := by decide
  unfold S_N_fits F_N_fits
  simp only [mbind_eq, L.x_ty.2, Option.getD_some, v0, v1]
  by_cases c0 : Is (3 + τ.length) x1
  · have c0' : 0 ≤ x1.toInt ∧ x1.toInt < 3 + τ.length := by unfold Is at c0; omega
    simp only [if_pos c0', if_neg y1]
    by_cases c1 : Is (3 + τ.length) x2
    · have c1' : 0 ≤ x2.toInt ∧ x2.toInt < 3 + τ.length := by unfold Is at c1; omega
      simp only [if_pos c1', if_neg y1]
      obtain ⟨s2, v2⟩ := h.suits (lim := lim) L (x := x1) (y := x2) (a := x1.toInt.toNat) (b := x2.toInt.toNat) (by omega) (by omega) (by omega) (by omega)
      have sa : cOk 0 M A.x ∧ cOq 1 M (some A.ty) ∧ S_Ty_isType cs lim M A.ty x1 ∧ cOk 0 M A.x ∧ cOq 1 M (some A.ty) ∧ S_Ty_isType cs lim M A.ty x2 ∧ cOk 0 M A.x ∧ cOq 1 M (some A.ty) ∧ S_Ty_suits cs lim M A.ty x1 x2 ∧ True := ⟨L.x_ty.1, ⟨_, rfl, L.ty_0.1⟩, s0, L.x_ty.1, ⟨_, rfl, L.ty_0.1⟩, s1, L.x_ty.1, ⟨_, rfl, L.ty_0.1⟩, s2, trivial⟩
      rcases v2 with ⟨e, q⟩ | ⟨e, q⟩
      · simp only [e, if_neg y1]
        exact ⟨sa, Or.inl ⟨trivial, c0, c1, q⟩⟩
      · simp only [e, if_pos]
        exact ⟨sa, Or.inr ⟨trivial, fun z => q z.2.2⟩⟩
    · have c1' : ¬ (0 ≤ x2.toInt ∧ x2.toInt < 3 + τ.length) := by unfold Is at c1; omega
      simp only [if_neg c1', if_pos]
      exact ⟨⟨L.x_ty.1, ⟨_, rfl, L.ty_0.1⟩, s0, L.x_ty.1, ⟨_, rfl, L.ty_0.1⟩, s1, trivial⟩, Or.inr ⟨trivial, fun z => c1 z.2.1⟩⟩
  · have c0' : ¬ (0 ≤ x1.toInt ∧ x1.toInt < 3 + τ.length) := by unfold Is at c0; omega
    simp only [if_neg c0', if_pos]
    exact ⟨⟨L.x_ty.1, ⟨_, rfl, L.ty_0.1⟩, s0, trivial⟩, Or.inr ⟨trivial, fun z => c0 z.1⟩⟩
end
end
section
/-! pure rows, the class: effect; fill; clear -/
def EfIs (A : Ad) (M : gMem) (tv gv : Nat → Int32) : Prop := ∀ e, e < 8 → aF M A.gv e = tv e ∧ aF M A.rs e = gv e
section
variable {cs : Nat → ClassId} {lim : Nat × Nat} {A : Ad} {M : gMem} {τ : TT} {K : Nat} {tv gv : Nat → Int32}
theorem EfIs.ext {W V : List (Nat × Nat)} {al : Bool} {M' : gMem} (h : EfIs A M tv gv) (L : Lay cs A M) (e : Ext W V al M M') (hV : ([(0, 2), (6, 2), (0, 3), (6, 3)] : List (Nat × Nat)).all (fun w => !V.contains w) = true) : EfIs A M' tv gv := fun i hi => by
  have h1 : ([(0, 2), (6, 2)] : List (Nat × Nat)).all (fun w => !V.contains w) = true := List.all_eq_true.mpr fun w hw => List.all_eq_true.mp hV w (by simp at hw ⊢; rcases hw with q | q <;> simp [q])
  have h2 : ([(0, 3), (6, 3)] : List (Nat × Nat)).all (fun w => !V.contains w) = true := List.all_eq_true.mpr fun w hw => List.all_eq_true.mp hV w (by simp at hw ⊢; rcases hw with q | q <;> simp [q])
  rw [e.xaF L.gv.1 (L.gvo.notV h1), e.xaF L.rs.1 (L.rso.notV h2)]
  exact h i hi
theorem Lay.gv_rs (L : Lay cs A M) : A.gv ≠ A.rs := fun q => by
  have := L.gvo A.x 0 3 (by decide) L.x_rs.1 (q ▸ L.x_rs.2)
  revert this
  decide
def CEff (A : Ad) (M : gMem) (tv gv : Nat → Int32) (good : Prop) (x1 x2 x3 : Int32) (w : Nat × gMem) : Prop :=
  (¬ good → w.1 = 1 ∧ w.2 = gsk M) ∧ (good → w.1 = 0 ∧ EfIs A w.2 (upd tv x1.toInt.toNat x2) (upd gv x1.toInt.toNat x3) ∧ w.2.2 = M.2)
theorem n_eff (L : Lay cs A M) (hc : (cI M A.ty 4).toInt = 3 + τ.length) (h : EfIs A M tv gv) (hl : M.2.1 + 1 ≤ lim.1 ∧ M.2.2 + 6 ≤ lim.2) (x1 x2 x3 : Int32) : S_N_effect cs lim M A.x x1 x2 x3 ∧ CEff A M tv gv (Is 8 x1 ∧ Is (3 + τ.length) x2 ∧ Is (3 + τ.length) x3) x1 x2 x3 (F_N_effect cs M A.x x1 x2 x3) := by
  obtain ⟨s0, v0⟩ := n_effect (cs := cs) hl x1
  obtain ⟨s1, v1⟩ := n_type L hc hl x2
  obtain ⟨s2, v2⟩ := n_type L hc hl x3
  have z1 : ¬ (1 : Nat) = 0 := by decide
  unfold S_N_effect F_N_effect CEff
  simp only [mbind_eq, v0, v1, v2, L.x_gv.2, Option.getD_some]
  by_cases c0 : Is 8 x1
  · simp only [if_pos c0, if_pos]
    by_cases c1 : Is (3 + τ.length) x2
    · simp only [if_pos c1, if_pos]
      by_cases c2 : Is (3 + τ.length) x3
      · simp only [if_pos c2, if_pos]
        have hne := L.gv_rs
        have hx : x1.toNatClampNeg = x1.toInt.toNat := rfl
        have hlt : x1.toInt.toNat < 8 := by unfold Is at c0; omega
        have e1 : Ext [] [(0, 2)] false M (aPi (cs 0) M A.gv x1.toNatClampNeg x2) := Ext.arrI L.mok (Ext.rf L.mok) L.gv.1 (Or.inr (fun z => z A.x 0 2 (by decide) (by decide) L.x_gv.1 L.x_gv.2))
        have L1 := L.ext e1 (by decide)
        have m1 : (aPi (cs 0) M A.gv x1.toNatClampNeg x2).1 A.gv = some (1, .inl (cs 0, aL M A.gv, .inl (upd (aF M A.gv) x1.toNatClampNeg x2))) := by unfold aPi; exact gup_s
        have m1r : (aPi (cs 0) M A.gv x1.toNatClampNeg x2).1 A.rs = M.1 A.rs := by unfold aPi; exact gup_n (Ne.symm hne)
        have hs : (aPi (cs 0) M A.gv x1.toNatClampNeg x2).2 = M.2 := rfl
        generalize aPi (cs 0) M A.gv x1.toNatClampNeg x2 = M1 at e1 L1 m1 m1r hs ⊢
        simp only [L1.x_rs.2, Option.getD_some]
        refine ⟨⟨s0, L.x_ty.1, s1, L.x_ty.1, s2, L.x_ty.1, ⟨trivial, L.gv.1⟩, by rw [L.gv.2]; unfold Is at c0; ((try (simp only [vp_in, Int32.toNatClampNeg, Int32.lt_iff_toInt_lt, Int32.le_iff_toInt_le, ← Int32.toInt_inj, Int32.toInt_add, Int32.toInt_sub, Int32.toInt_mul, Int32.reduceToInt, i32_neg1, Nat.reducePow, Int.reducePow, ne_eq, ge_iff_le, gt_iff_lt] at *)) <;> (first | omega | ((simp (disch := omega) only [bm32] at *) <;> omega))), L1.x_ty.1, ⟨trivial, L1.rs.1⟩, by rw [L1.rs.2]; unfold Is at c0; ((try (simp only [vp_in, Int32.toNatClampNeg, Int32.lt_iff_toInt_lt, Int32.le_iff_toInt_le, ← Int32.toInt_inj, Int32.toInt_add, Int32.toInt_sub, Int32.toInt_mul, Int32.reduceToInt, i32_neg1, Nat.reducePow, Int.reducePow, ne_eq, ge_iff_le, gt_iff_lt] at *)) <;> (first | omega | ((simp (disch := omega) only [bm32] at *) <;> omega))), trivial⟩, fun g => absurd ⟨c0, c1, c2⟩ g, fun _ => ⟨trivial, fun e he => ?_, hs⟩⟩
        have f1 : aF (aPi (cs 0) M1 A.rs x1.toNatClampNeg x3) A.gv = upd (aF M A.gv) x1.toNatClampNeg x2 := by
          rw [aF_cong (by unfold aPi; exact gup_n hne)]
          exact (aI_of m1).2
        have f2 : aF (aPi (cs 0) M1 A.rs x1.toNatClampNeg x3) A.rs = upd (aF M A.rs) x1.toNatClampNeg x3 := by
          have : (aPi (cs 0) M1 A.rs x1.toNatClampNeg x3).1 A.rs = some (1, .inl (cs 0, aL M1 A.rs, .inl (upd (aF M1 A.rs) x1.toNatClampNeg x3))) := by unfold aPi; exact gup_s
          rw [(aI_of this).2, aF_cong m1r]
        rw [f1, f2, hx, upd_at, upd_at, upd_at, upd_at, (h e he).1, (h e he).2]
        exact ⟨rfl, rfl⟩
      · simp only [if_neg c2, if_neg z1]
        exact ⟨⟨s0, L.x_ty.1, s1, L.x_ty.1, s2, trivial⟩, fun _ => ⟨trivial, trivial⟩, fun g => absurd g.2.2 c2⟩
    · simp only [if_neg c1, if_neg z1]
      exact ⟨⟨s0, L.x_ty.1, s1, trivial⟩, fun _ => ⟨trivial, trivial⟩, fun g => absurd g.2.1 c1⟩
  · simp only [if_neg c0, if_neg z1]
    exact ⟨⟨s0, trivial⟩, fun _ => ⟨trivial, trivial⟩, fun g => absurd g.1 c0⟩
/-- an array is filled -/
theorem ar_fill {b len : Nat} {V : List (Nat × Nat)} {y : Int32} (hlen : len < 1000) : ∀ (d i : Nat) (x2 x3 : Int32) (n : Nat) (M : gMem), len - i = d → i ≤ len → x2.toInt = i → x3.toInt = len → d < n → MOk M → aIk (cs 0) M b → aL M b = len → ¬ NotV V M b →
    S_Ar_fill_5 cs lim n M (some b) y x2 x3 ∧ Ext [] V false M (F_Ar_fill_5 cs n M (some b) y x2 x3) ∧ (∀ j, aF (F_Ar_fill_5 cs n M (some b) y x2 x3) b j = if i ≤ j ∧ j < len then y else aF M b j) ∧ ∀ c, c ≠ b → (F_Ar_fill_5 cs n M (some b) y x2 x3).1 c = M.1 c := by
  intro d
  induction d with
  | zero =>
    intro i x2 x3 n M hd hi h2 h3 hn hM ha hl hv
    obtain ⟨n, rfl⟩ : ∃ k, n = k + 1 := ⟨n - 1, by omega⟩
    have : x3 ≤ x2 := by ((try (simp only [vp_in, Int32.toNatClampNeg, Int32.lt_iff_toInt_lt, Int32.le_iff_toInt_le, ← Int32.toInt_inj, Int32.toInt_add, Int32.toInt_sub, Int32.toInt_mul, Int32.reduceToInt, i32_neg1, Nat.reducePow, Int.reducePow, ne_eq, ge_iff_le, gt_iff_lt] at *)) <;> (first | omega | ((simp (disch := omega) only [bm32] at *) <;> omega)))
    simp only [S_Ar_fill_5, F_Ar_fill_5, if_pos this]
    exact ⟨trivial, Ext.rf hM, fun j => by rw [if_neg (by omega)], fun _ _ => trivial⟩
  | succ d ih =>
    intro i x2 x3 n M hd hi h2 h3 hn hM ha hl hv
    obtain ⟨n, rfl⟩ : ∃ k, n = k + 1 := ⟨n - 1, by omega⟩
    have hle : ¬ x3 ≤ x2 := by ((try (simp only [vp_in, Int32.toNatClampNeg, Int32.lt_iff_toInt_lt, Int32.le_iff_toInt_le, ← Int32.toInt_inj, Int32.toInt_add, Int32.toInt_sub, Int32.toInt_mul, Int32.reduceToInt, i32_neg1, Nat.reducePow, Int.reducePow, ne_eq, ge_iff_le, gt_iff_lt] at *)) <;> (first | omega | ((simp (disch := omega) only [bm32] at *) <;> omega)))
    have hc : x2.toNatClampNeg = i := by ((try (simp only [vp_in, Int32.toNatClampNeg, Int32.lt_iff_toInt_lt, Int32.le_iff_toInt_le, ← Int32.toInt_inj, Int32.toInt_add, Int32.toInt_sub, Int32.toInt_mul, Int32.reduceToInt, i32_neg1, Nat.reducePow, Int.reducePow, ne_eq, ge_iff_le, gt_iff_lt] at *)) <;> (first | omega | ((simp (disch := omega) only [bm32] at *) <;> omega)))
    simp only [S_Ar_fill_5, F_Ar_fill_5, if_neg hle, Option.getD_some, hc]
    have e1 : Ext [] V false M (aPi (cs 0) M b i y) := Ext.arrI hM (Ext.rf hM) ha (Or.inr hv)
    have m1 : (aPi (cs 0) M b i y).1 b = some (1, .inl (cs 0, aL M b, .inl (upd (aF M b) i y))) := by unfold aPi; exact gup_s
    have mo : ∀ c, c ≠ b → (aPi (cs 0) M b i y).1 c = M.1 c := fun c hc => by unfold aPi; exact gup_n hc
    have hv1 : ¬ NotV V (aPi (cs 0) M b i y) b := fun z => hv (fun a ci k hk ho hok hq => by
      have hab : a ≠ b := fun q => hok.notI (q ▸ ha)
      exact z a ci k hk ho ((cOk_cong (mo a hab)).mpr hok) (by rw [cQ_cong (mo a hab)]; exact hq))
    have r := ih (i + 1) (x2 + 1) x3 n (aPi (cs 0) M b i y) (by omega) (by omega) (by ((try (simp only [vp_in, Int32.toNatClampNeg, Int32.lt_iff_toInt_lt, Int32.le_iff_toInt_le, ← Int32.toInt_inj, Int32.toInt_add, Int32.toInt_sub, Int32.toInt_mul, Int32.reduceToInt, i32_neg1, Nat.reducePow, Int.reducePow, ne_eq, ge_iff_le, gt_iff_lt] at *)) <;> (first | omega | ((simp (disch := omega) only [bm32] at *) <;> omega)))) h3 (by omega) e1.ok (e1.aI ha).1 ((e1.aI ha).2.trans hl) hv1
    obtain ⟨r1, r2, r3, r4⟩ := r
    refine ⟨⟨⟨trivial, ha⟩, by rw [hl]; ((try (simp only [vp_in, Int32.toNatClampNeg, Int32.lt_iff_toInt_lt, Int32.le_iff_toInt_le, ← Int32.toInt_inj, Int32.toInt_add, Int32.toInt_sub, Int32.toInt_mul, Int32.reduceToInt, i32_neg1, Nat.reducePow, Int.reducePow, ne_eq, ge_iff_le, gt_iff_lt] at *)) <;> (first | omega | ((simp (disch := omega) only [bm32] at *) <;> omega))), r1⟩, e1.trans hM r2, fun j => ?_, fun c hcb => (r4 c hcb).trans (mo c hcb)⟩
    rw [r3 j, (aI_of m1).2, upd_at]
    by_cases q1 : i + 1 ≤ j ∧ j < len
    · rw [if_pos q1, if_pos (by omega)]
    · rw [if_neg q1]
      by_cases q2 : j = i
      · rw [if_pos q2, if_pos (by omega)]
      · rw [if_neg q2, if_neg (by omega)]
end
end
section
/-! pure rows, the class: what is seen of an EXPR, in one number -/
def Byte (e : Int32) : Prop := 0 ≤ e.toInt ∧ e.toInt < 256
theorem byte_and {e : Int32} (h : e &&& 255 = e) : Byte e := by
  have h1 : (e.toBitVec &&& 255#32) = e.toBitVec := by
    have := congrArg Int32.toBitVec h
    rwa [Int32.toBitVec_and] at this
  have h2 : e.toBitVec.toNat ≤ 255 := by
    rw [← h1, BitVec.toNat_and]
    exact Nat.and_le_right
  have h3 : e.toInt = e.toBitVec.toNat := by
    show e.toBitVec.toInt = _
    rw [BitVec.toInt_eq_toNat_of_lt (by omega)]
  unfold Byte
  omega
theorem and_byte {e : Int32} (h : Byte e) : e &&& 255 = e := by
  have h3 : e.toBitVec.toInt = e.toInt := rfl
  have hn : e.toBitVec.toNat < 256 := by
    have := h.1
    have := h.2
    rw [← h3, BitVec.toInt_eq_toNat_cond] at *
    split at * <;> omega
  apply Int32.toBitVec_inj.mp
  rw [Int32.toBitVec_and]
  apply BitVec.eq_of_toNat_eq
  rw [BitVec.toNat_and]
  show e.toBitVec.toNat &&& 255 = _
  rw [show (255 : Nat) = 2 ^ 8 - 1 from rfl, Nat.and_two_pow_sub_one_eq_mod]
  omega
theorem Byte.or {a b : Int32} (ha : Byte a) (hb : Byte b) : Byte (a ||| b) := by
  apply byte_and
  have h1 := and_byte ha
  have h2 := and_byte hb
  rw [← h1, ← h2]
  apply Int32.toBitVec_inj.mp
  simp only [Int32.toBitVec_and, Int32.toBitVec_or]
  ext i hi
  simp only [BitVec.getElem_and, BitVec.getElem_or]
  cases (a.toBitVec)[i] <;> cases (b.toBitVec)[i] <;> cases ((255 : Int32).toBitVec)[i] <;> rfl
theorem Byte.zero : Byte 0 := by unfold Byte; decide
theorem Byte.bit {e : Int32} {i : Nat} (h : e.toInt = i) (hi : i < 8) : Byte ((1 : Int32) <<< (e &&& 31)) := by
  apply byte_and
  apply Int32.toBitVec_inj.mp
  rw [Int32.toBitVec_and, shl_bv e h (by omega)]
  show (1#32 <<< i) &&& 255#32 = _
  clear h
  revert hi; revert i; decide
/-- seenAs and back -/
theorem seen_int {t e : Int32} {n : Nat} (ht : t.toInt = n) (hn : n < 600) (he : Byte e) : (t * 256 + e).toInt = n * 256 + e.toInt := by
  unfold Byte at he
  ((try (simp only [vp_in, Int32.toNatClampNeg, Int32.lt_iff_toInt_lt, Int32.le_iff_toInt_le, ← Int32.toInt_inj, Int32.toInt_add, Int32.toInt_sub, Int32.toInt_mul, Int32.reduceToInt, i32_neg1, Nat.reducePow, Int.reducePow, ne_eq, ge_iff_le, gt_iff_lt] at *)) <;> (first | omega | ((simp (disch := omega) only [bm32] at *) <;> omega)))
theorem typeIn_seen {s : Int32} {n : Nat} {e : Int32} (hs : s.toInt = n * 256 + e.toInt) (he : Byte e) : (s / 256).toInt = n := by
  rw [Int32.toInt_div_of_ne_right _ _ (by decide), hs]
  unfold Byte at he
  have : (256 : Int32).toInt = 256 := rfl
  rw [this, Int.tdiv_eq_ediv_of_nonneg (by omega)]
  omega
theorem effectsIn_seen {s : Int32} {n : Nat} {e : Int32} (hn : n < 600) (hs : s.toInt = n * 256 + e.toInt) (he : Byte e) : s &&& 255 = e := by
  unfold Byte at he
  have h3 : s.toBitVec.toInt = s.toInt := rfl
  have h4 : e.toBitVec.toInt = e.toInt := rfl
  have hsn : (s.toBitVec.toNat : Int) = n * 256 + e.toInt := by
    rw [← hs, ← h3, BitVec.toInt_eq_toNat_cond]
    rw [hs] at h3
    rw [BitVec.toInt_eq_toNat_cond] at h3
    split at h3 <;> simp_all <;> omega
  have hen : (e.toBitVec.toNat : Int) = e.toInt := by
    rw [← h4, BitVec.toInt_eq_toNat_cond]
    rw [BitVec.toInt_eq_toNat_cond] at h4
    split at h4 <;> simp_all <;> omega
  apply Int32.toBitVec_inj.mp
  rw [Int32.toBitVec_and]
  apply BitVec.eq_of_toNat_eq
  rw [BitVec.toNat_and]
  show s.toBitVec.toNat &&& 255 = _
  rw [show (255 : Nat) = 2 ^ 8 - 1 from rfl, Nat.and_two_pow_sub_one_eq_mod]
  omega
end
