abbrev gcN : MethodName := ⟨"java/lang/Object", "getClass", "()Ljava/lang/Class;"⟩
theorem kl_ArO_getClass : Cond.selects "[Ljava/lang/Object;" gcN gcN ∈ gT := gT_k7 209 rfl rfl
theorem kw_Ob_getClass : Cond.declares gcN ∈ gz := gz_k7 210 rfl rfl
section CLn
variable {p : Program} {l : Launch} {e : Env} {R : Room} {s : State} {m : MethodId} {args : Array Value} {below : List Frame} {meth : Method} {c : Code} {nL : Nat} {D : va_G} {B : Nat} {dE : Nat × Nat} {A : Nat → Prop} {Q : State → Prop} {M0 M : gMem} {cells slots pc : Nat} {lv : List (Nat × Value)} {rest st : List Value} {cc : ByteArray} {own : String} {cs : Nat → ClassId} {lim : Nat × Nat} {P : Heap → Prop}
theorem gE_ca (hE : gEnv D gcl (gtys cs) gz B dE s) {a b : String} (hw : Cond.castable a b ∈ gz) : va_Nw (.castable a b) s := (show gzok _ ∧ va_Nw _ s from hE.2.1 _ hw).2
theorem gE_de (hE : gEnv D gcl (gtys cs) gz B dE s) : va_Nw (.declares gcN) s := (show gzok _ ∧ va_Nw _ s from hE.2.1 _ kw_Ob_getClass).2
theorem gS_wide {H0 H : Heap} {locs : List Loc} (hA : ∀ q, A q → B ≤ q) (hS : va_S A H0 H locs) : va_S (gA B) H0 H locs := ⟨hS.1, fun q h1 h2 => hS.2.1 q h1 (fun h => h2 (hA q h)), fun l hl => hA _ (hS.2.2 l hl)⟩
/-- ArrayList's empty array -/
theorem c_gets (C : CallFix p m c cc nL s args gT own) (hE : gEnv D gcl (gtys cs) gz B dE s) (hA : ∀ q, A q → B ≤ q) {idx : Nat} (hlink : Cond.fieldLink own idx R_AL "DEFAULTCAPACITY_EMPTY_ELEMENTDATA" "[Ljava/lang/Object;" ∈ gT) (hd : decode cc pc = .ok (.getstatic idx, 3)) (k : GW p l e R s m args below meth c nL A Q P cells slots (pc + 3) lv (.ref dE.1 :: st)) : GW p l e R s m args below meth c nL A Q P cells slots pc lv st := fun H locs ls hP hS hl =>
  va_gets C.1 C.2.1 hE.2.2.2.2.1 (gS_wide hA hS) C.2.2.2.1 (C.2.2.2.2 _ hlink) (fun _ h => h) hd (k H locs ls hP hS hl)
/-- an Object[] that is there, or ArrayList's empty one -/
def oOk (cs : Nat → ClassId) (dE : Nat × Nat) (M : gMem) (a : Nat) : Prop := aQk (cs 5) M a ∨ (a = dE.1 ∧ M.1 a = none)
theorem c_alenO (C : CallFix p m c cc nL s args gT own) (hE : gEnv D gcl (gtys cs) gz B dE s) (hA : ∀ q, A q → B ≤ q) {a : Nat} (hd : decode cc pc = .ok (.arraylength, 1)) (ha : oOk cs dE M a) (kk : GW p l e R s m args below meth c nL A Q (gR D gcl B M) cells slots (pc + 1) lv (.int (nI (aL M a)) :: st)) : GW p l e R s m args below meth c nL A Q (gR D gcl B M) cells slots pc lv (.ref a :: st) := by
  rcases ha with ⟨n, f, h1⟩ | ⟨rfl, h1⟩
  · have e1 : aL M a = n := by unfold aL; rw [h1]
    rw [e1] at kk
    exact g_alen C hE.1 (t0 := 5) rfl hd h1 rfl kk
  · have e1 : aL M dE.1 = 0 := by unfold aL; rw [h1]
    rw [e1] at kk
    exact fun H locs ls hP hS hl => va_tlen C.1 C.2.1 hE.2.2.2.2.2.1 (gS_wide hA hS) rfl hd (kk H locs ls hP hS hl)
/-- an object of ours into an Object[] -/
theorem k_aastO (C : CallFix p m c cc nL s args gT own) (hE : gEnv D gcl (gtys cs) gz B dE s) {ci a : Nat} {rc : vw_C} {r : Option Nat} {i : Int32} (hc : gcl[ci]? = some rc) (hcast : Cond.castable rc.1 "java/lang/Object" ∈ gz) (hd : decode cc pc = .ok (.aastore, 1)) (ha : aQk (cs 5) M a) (hv : cOq ci M r) (hi : vp_in i (aL M a)) (kk : GW p l e R s m args below meth c nL (gA B) Q (gR D gcl B (aPq (cs 5) M a i.toNatClampNeg r)) ((aPq (cs 5) M a i.toNatClampNeg r).2.1 - M0.2.1) ((aPq (cs 5) M a i.toNatClampNeg r).2.2 - M0.2.2) (pc + 1) lv st) : GW p l e R s m args below meth c nL (gA B) Q (gR D gcl B M) (M.2.1 - M0.2.1) (M.2.2 - M0.2.2) pc lv (va_rf r :: .int i :: .ref a :: st) := by
  have hK := hE.1
  obtain ⟨n, f, h1⟩ := ha
  obtain ⟨v, rfl, fs, hv, -⟩ := hv
  have e1 : aL M a = n := by unfold aL; rw [h1]
  have e2 : aQ M a = f := by unfold aQ; rw [h1]
  rw [e1] at hi
  intro H locs ls hR hS hl
  have hlt : i.toNatClampNeg < n := Nat.not_le.mp fun q => hi (Or.inr q)
  have h0 : ¬ i < 0 := fun q => hi (Or.inl q)
  obtain ⟨r', hr', cellV, g1, g2, g3, -⟩ := (hR.2 v _ hv).2
  have hcls := (hK.1 ci rc hc).2
  have ht : (gtys cs)[5]? = some (cs 5, FieldType.object "java/lang/Object") := rfl
  obtain ⟨kA, comp, k1, k2, k3, -⟩ := (hK.2 5 _ ht).2
  obtain ⟨c0, tt, f1, f2, f3⟩ := Cond.castable_spec (va_Nw.use (A := args) rfl (gE_ca hE hcast))
  have hcomp : comp = tt := Option.some.inj (k3.symm.trans f2)
  have hc0 : c0 = D.1 ci := Option.some.inj (f1.symm.trans hcls.1)
  subst hcomp hc0
  obtain ⟨kC, hkC, -⟩ := hcls.2
  obtain ⟨kO, hkO, -⟩ := Vm.findClass_spec f2
  refine W.aast C.1 C.2.1 (hR.2 a _ h1).2 (fun q h => by cases h) (fun h => by cases h) k1 k2 rfl hkO ⟨h0, by show _ < (arrV _ _ _).slots.size; rw [arrV_size]; exact hlt⟩ g1 (fun q h => by rw [g3] at h; cases h) (by rw [g2]; exact hkC) (by rw [g2]; exact f3) rfl rfl hd fun H1 e1' z oq => ?_
  refine kk H1 _ ls ?_ (hS.put z oq (hR.2 a _ h1).1) hl
  unfold aPq
  rw [e1, e2]
  refine hR.put1 h1 ?_ z oq
  show H1[a]? = some (vp_cell _ _)
  rw [e1']
  rw [vp_cell_q, vp_cell_q, arrV_store]
  congr 2
  funext q
  by_cases hq : q = i.toNatClampNeg
  · subst hq
    simp [updV, va_up, va_rf]
  · simp [updV, va_up, hq]
/-- getClass() of an Object[], and Object[].class -/
theorem c_getC (C : CallFix p m c cc nL s args gT own) (hE : gEnv D gcl (gtys cs) gz B dE s) {idx a : Nat} (hlink : Cond.methodLink own idx gcN ∈ gT) (hinst : Cond.instanceMethod gcN ∈ gT) (hnat : Cond.native gcN ∈ gT) (hd : decode cc pc = .ok (.invokevirtual idx, 3)) (ha : aQk (cs 5) M a) (hfr : 1 ≤ R.frames) (hlo : (st.map fun v => v.category).sum + 14 ≤ R.locals) (k : GW p l e R s m args below meth c nL A Q (gR D gcl B M) cells slots (pc + 3) lv (.ref dE.2 :: st)) : GW p l e R s m args below meth c nL A Q (gR D gcl B M) cells slots pc lv (.ref a :: st) := fun H locs ls hR hS hl => by
  obtain ⟨n, f, h1⟩ := ha
  have ht : (gtys cs)[5]? = some (cs 5, FieldType.object "java/lang/Object") := rfl
  exact va_getC C.1 C.2.1 (by rw [C.2.2.1, hl.1]) C.2.2.2.1 (C.2.2.2.2 _ hlink) (va_Nw.use rfl (gE_de hE)) (C.2.2.2.2 _ kl_ArO_getClass) (C.2.2.2.2 _ hinst) (C.2.2.2.2 _ hnat) hE.2.2.2.2.2.2.2.2.1 ⟨_, (hR.2 a _ h1).2, rfl, va_nmO (hE.1.2 5 _ ht).2 rfl⟩ hfr hlo hd (k H locs ls hR hS hl)
theorem c_ldcM (C : CallFix p m c cc nL s args gT own) (hE : gEnv D gcl (gtys cs) gz B dE s) {idx : Nat} (hlink : Cond.classLink own idx "[Ljava/lang/Object;" ∈ gT) (hd : decode cc pc = .ok (.ldc idx, 2)) (k : GW p l e R s m args below meth c nL A Q P cells slots (pc + 2) lv (.ref dE.2 :: st)) : GW p l e R s m args below meth c nL A Q P cells slots pc lv st := fun H locs ls hR hS hl =>
  va_ldcM C.1 C.2.1 C.2.2.2.1 (C.2.2.2.2 _ hlink) hE.2.2.2.2.2.2.2.2.1 hd (k H locs ls hR hS hl)
/-- a cast that goes well -/
theorem c_castq (C : CallFix p m c cc nL s args gT own) (hE : gEnv D gcl (gtys cs) gz B dE s) {idx ci : Nat} {rc : vw_C} {r : Option Nat} (hc : gcl[ci]? = some rc) (hlink : Cond.classLink own idx rc.1 ∈ gT) (hcast : Cond.castable rc.1 rc.1 ∈ gz) (hd : decode cc pc = .ok (.checkcast idx, 3)) (hv : r = none ∨ cOq ci M r) (k : GW p l e R s m args below meth c nL A Q (gR D gcl B M) cells slots (pc + 3) lv (va_rf r :: st)) : GW p l e R s m args below meth c nL A Q (gR D gcl B M) cells slots pc lv (va_rf r :: st) := fun H locs ls hR hS hl => by
  rcases hv with rfl | ⟨v, rfl, fs, hv, -⟩
  · exact lv_castN C.1 C.2.1 hd (k H locs ls hR hS hl)
  · obtain ⟨r', hr', cellV, g1, g2, g3, -⟩ := (hR.2 v _ hv).2
    have hcls := (hE.1.1 ci rc hc).2
    exact va_castY C.1 C.2.1 C.2.2.2.1 (C.2.2.2.2 _ hlink) (gE_ca hE hcast) ⟨cellV, g1, by rw [g3]; rfl, by rw [g2]; exact hcls.1⟩ hd (k H locs ls hR hS hl)
/-- references copied from one Object[] into another -/
def aCq (cA : ClassId) (M : gMem) (a0 a sp dp n : Nat) : gMem := gup M a (1, .inl (cA, aL M a, .inr (.inr (.inr (.inr (va_cpy (aQ M a0) (aQ M a) sp dp n))))))
theorem cLe.aCq {cA : ClassId} {a0 a sp dp n : Nat} (h : cLe lim M0 M) : cLe lim M0 (aCq cA M a0 a sp dp n) := h
/-- what lies in a list of ours -/
def oEl (M : gMem) (a : Nat) : Prop := ∀ i y, aQ M a i = some y → cOk 10 M y ∨ cOk 11 M y
theorem oEl_at (hE : gEnv D gcl (gtys cs) gz B dE s) {H : Heap} (hR : gR D gcl B M H) {y : Nat} (h : cOk 10 M y ∨ cOk 11 M y) : ∃ (cellV : Cell) (comp : ClassId), H[y]? = some cellV ∧ cellV.vm.isStatics = false ∧ s.vm.findClass "java/lang/Object" = some comp ∧ (∃ kC, s.vm.classes[cellV.cls]? = some kC) ∧ (∃ kO, s.vm.classes[comp]? = some kO) ∧ s.vm.assignable cellV.cls comp = true := by
  have one : ∀ (ci : Nat) (rc : vw_C), gcl[ci]? = some rc → Cond.castable rc.1 "java/lang/Object" ∈ gz → cOk ci M y → ∃ (cellV : Cell) (comp : ClassId), H[y]? = some cellV ∧ cellV.vm.isStatics = false ∧ s.vm.findClass "java/lang/Object" = some comp ∧ (∃ kC, s.vm.classes[cellV.cls]? = some kC) ∧ (∃ kO, s.vm.classes[comp]? = some kO) ∧ s.vm.assignable cellV.cls comp = true := by
    intro ci rc hc hcast hcok
    obtain ⟨fs, hv, -⟩ := hcok
    obtain ⟨r', hr', cellV, g1, g2, g3, -⟩ := (hR.2 y _ hv).2
    have hcls := (hE.1.1 ci rc hc).2
    obtain ⟨c0, tt, f1, f2, f3⟩ := Cond.castable_spec (va_Nw.use (A := #[]) rfl (gE_ca hE hcast))
    have hc0 : c0 = D.1 ci := Option.some.inj (f1.symm.trans hcls.1)
    subst hc0
    obtain ⟨kC, hkC, -⟩ := hcls.2
    obtain ⟨kO, hkO, -⟩ := Vm.findClass_spec f2
    exact ⟨cellV, tt, g1, by rw [g3]; rfl, f2, ⟨kC, by rw [g2]; exact hkC⟩, ⟨kO, hkO⟩, by rw [g2]; exact f3⟩
  rcases h with h | h
  · exact one 10 _ rfl kx_Fr_Ob h
  · exact one 11 _ rfl kx_Th_Ob h
theorem k_copyq (C : CallFix p m c cc nL s args gT own) (hE : gEnv D gcl (gtys cs) gz B dE s) {idx a0 a : Nat} {sp dp n : Int32} (hlink : Cond.methodLink own idx arraycopyName ∈ gT) (hnat : Cond.native arraycopyName ∈ gT) (hstat : Cond.static arraycopyName ∈ gT) (hini : Cond.initialized "java/lang/System" ∈ gT) (hd : decode cc pc = .ok (.invokestatic idx, 3)) (ha0 : aQk (cs 5) M a0) (hel : oEl M a0) (ha1 : aQk (cs 5) M a) (h : (¬ sp < 0 ∧ ¬ dp < 0 ∧ ¬ n < 0) ∧ sp.toNatClampNeg + n.toNatClampNeg ≤ aL M a0 ∧ dp.toNatClampNeg + n.toNatClampNeg ≤ aL M a) (hfr : 1 ≤ R.frames) (hlo : (rest.map fun v => v.category).sum + (nativeFrameWords "java/lang/System" "arraycopy" 5 + 11) ≤ R.locals) (k : GW p l e R s m args below meth c nL (gA B) Q (gR D gcl B (aCq (cs 5) M a0 a sp.toNatClampNeg dp.toNatClampNeg n.toNatClampNeg)) ((aCq (cs 5) M a0 a sp.toNatClampNeg dp.toNatClampNeg n.toNatClampNeg).2.1 - M0.2.1) ((aCq (cs 5) M a0 a sp.toNatClampNeg dp.toNatClampNeg n.toNatClampNeg).2.2 - M0.2.2) (pc + 3) lv rest) : GW p l e R s m args below meth c nL (gA B) Q (gR D gcl B M) (M.2.1 - M0.2.1) (M.2.2 - M0.2.2) pc lv (.int n :: .int dp :: .ref a :: .int sp :: .ref a0 :: rest) := fun H locs ls hR hS hl => by
  have hK := hE.1
  obtain ⟨⟨h1, h2, h3⟩, h4, h5⟩ := h
  obtain ⟨n0, f, e0⟩ := ha0
  obtain ⟨n1, g, e1⟩ := ha1
  have l0 : aL M a0 = n0 := by unfold aL; rw [e0]
  have l1 : aL M a = n1 := by unfold aL; rw [e1]
  have f0 : aQ M a0 = f := by unfold aQ; rw [e0]
  have f1 : aQ M a = g := by unfold aQ; rw [e1]
  have ht : (gtys cs)[5]? = some (cs 5, FieldType.object "java/lang/Object") := rfl
  rw [l0] at h4
  rw [l1] at h5
  unfold oEl at hel
  rw [f0] at hel
  intro T hT X
  have hc0 : H[a0]? = some (vp_cell (cs 5) (n0, .inr (.inr (.inr (.inr f))))) := (hR.2 a0 _ e0).2
  have hc1 : H[a]? = some (vp_cell (cs 5) (n1, .inr (.inr (.inr (.inr g))))) := (hR.2 a _ e1).2
  obtain ⟨-, k0, hk0, cm0, hkk0⟩ := (hK.2 5 _ ht).1 n0 (fun j => va_rf (f j))
  obtain ⟨-, k1, hk1, cm1, hkk1⟩ := (hK.2 5 _ ht).1 n1 (fun j => va_rf (g j))
  obtain ⟨vm', X', step⟩ := X.arraycopy C.1 C.2.2.2.1 (C.2.2.2.2 _ hlink) (C.2.2.2.2 _ hnat) (C.2.2.2.2 _ hstat) (C.2.2.2.2 _ hini) (src := a0) (dst := a) (cs := vp_cell (cs 5) (n0, .inr (.inr (.inr (.inr f))))) (cd := vp_cell (cs 5) (n1, .inr (.inr (.inr (.inr g))))) (srcPos := sp) (destPos := dp) (n := n) (by rw [hT]; exact hc0) (by rw [hT]; exact hc1)
    (fun _ h => by cases h) (fun _ h => by cases h) (fun h => by cases h) (fun h => by cases h) hk0 hk1 hkk0 hkk1 rfl h1 h2 h3
    (by rw [i32_nn h1, i32_nn h3]; show ¬ _ > ((arrV (cs 5) n0 (fun j => va_rf (f j))).slots.size : Int); rw [arrV_size]; omega)
    (by rw [i32_nn h2, i32_nn h3]; show ¬ _ > ((arrV (cs 5) n1 (fun j => va_rf (g j))).slots.size : Int); rw [arrV_size]; omega)
    (fun vm₁ hal i hi => by
      have e : (vp_cell (cs 5) (n0, .inr (.inr (.inr (.inr f))))).slots.getD (sp.toNatClampNeg + i) .null = va_rf (f (sp.toNatClampNeg + i)) := by
        show (arrV (cs 5) n0 (fun j => va_rf (f j))).slots.getD _ _ = _
        rw [Array.getD_eq_getD_getElem?, arrV_read _ _ (by omega)]
        rfl
      rw [e]
      cases hy : f (sp.toNatClampNeg + i) with
      | none => exact ⟨rfl, trivial⟩
      | some y =>
        obtain ⟨cellV, comp, g1, g2, g3, ⟨kC, g4⟩, ⟨kO, g5⟩, g6⟩ := oEl_at hE hR (hel _ _ hy)
        obtain ⟨kA, comp', r1, r2, r3, -⟩ := (hK.2 5 _ ht).2
        cases hk1.symm.trans r1
        cases hkk1.symm.trans r2
        cases g3.symm.trans r3
        obtain ⟨kC', hkC', -⟩ := hal.2.2 _ _ g4
        obtain ⟨kO', hkO', -⟩ := hal.2.2 _ _ g5
        refine ⟨rfl, cellV, (show T.heap[y]? = some cellV by rw [hT]; exact g1), (fun q h => by rw [h] at g2; cases g2), ⟨kC', hkC'⟩, ?_, ?_⟩
        · exact ⟨kO', hkO'⟩
        · show vm₁.assignable _ _ = true
          rw [hal.assignable]
          exact g6)
    (g := F0 m pc ls (.int n :: .int dp :: .ref a :: .int sp :: .ref a0 :: rest)) rfl (by rw [C.2.2.1, hl.1]) (rest := rest) rfl (by rw [C.2.1]; exact hd) hfr (by show 2 * 0 + _ + _ ≤ _; omega)
  have ec : copied (vp_cell (cs 5) (n0, .inr (.inr (.inr (.inr f))))) (vp_cell (cs 5) (n1, .inr (.inr (.inr (.inr g))))) sp dp n = vp_cell (cs 5) (n1, .inr (.inr (.inr (.inr (va_cpy f g sp.toNatClampNeg dp.toNatClampNeg n.toNatClampNeg))))) := by
    rw [vp_cell_q, vp_cell_q, vp_cell_q]
    exact va_copied (fun z => va_rf z) (cs 5) (cs 5) f g h4
  rw [ec] at X' step
  have hlt : a < H.size := (Array.getElem?_eq_some_iff.mp hc1).1
  have hheap : ((T.setVm vm').setCell a (vp_cell (cs 5) (n1, .inr (.inr (.inr (.inr (va_cpy f g sp.toNatClampNeg dp.toNatClampNeg n.toNatClampNeg))))))).heap = H.setIfInBounds a (vp_cell (cs 5) (n1, .inr (.inr (.inr (.inr (va_cpy f g sp.toNatClampNeg dp.toNatClampNeg n.toNatClampNeg)))))) := by rw [← hT]; rfl
  have oq : ∀ q : Nat, q ≠ a → (H.setIfInBounds a (vp_cell (cs 5) (n1, .inr (.inr (.inr (.inr (va_cpy f g sp.toNatClampNeg dp.toNatClampNeg n.toNatClampNeg)))))))[q]? = H[q]? := fun q hq => by simp [Array.getElem?_setIfInBounds, Ne.symm hq]
  have hBa : B ≤ a := (hR.2 a _ e1).1
  have hR' : gR D gcl B (aCq (cs 5) M a0 a sp.toNatClampNeg dp.toNatClampNeg n.toNatClampNeg) (H.setIfInBounds a (vp_cell (cs 5) (n1, .inr (.inr (.inr (.inr (va_cpy f g sp.toNatClampNeg dp.toNatClampNeg n.toNatClampNeg))))))) := by
    unfold aCq
    rw [l1, f0, f1]
    exact hR.put1 e1 (show (H.setIfInBounds a _)[a]? = some _ by simp [Array.getElem?_setIfInBounds, hlt]) (by simp) oq
  obtain ⟨t, a1, b1⟩ := k _ _ ls hR' ⟨by simp; exact hS.1, fun q g1 g2 => by
      rw [oq q (fun e => g2 (by rw [e]; exact hBa))]
      exact hS.2.1 q g1 g2, fun q hq => by
      rcases List.mem_append.mp hq with h | h
      · exact hS.2.2 q h
      · obtain ⟨z, -, hz⟩ := List.mem_map.mp h
        rw [← hz]
        exact hBa⟩ hl _ hheap X'
  exact ⟨t, step t a1, b1⟩
/-- a field under its heir's name: ArrayList's modCount -/
theorem kf_AL_same : Cond.sameField R_AL "java/util/AbstractList" "modCount" "I" ∈ gT := gT_k2 40 rfl rfl
theorem c_getS (C : CallFix p m c cc nL s args gT own) (hE : gEnv D gcl (gtys cs) gz B dE s) {idx a : Nat} (hlink : Cond.fieldLink own idx R_AL "modCount" "I" ∈ gT) (hd : decode cc pc = .ok (.getfield idx, 3)) (ha : cOk 13 M a) (kk : GW p l e R s m args below meth c nL A Q (gR D gcl B M) cells slots (pc + 3) lv (.int (cI M a 2) :: st)) : GW p l e R s m args below meth c nL A Q (gR D gcl B M) cells slots pc lv (.ref a :: st) := by
  obtain ⟨fs, h1, h3⟩ := ha
  exact fun H locs ls hR hS hl => va_get (D := D) (cl := gcl) (ws := [(a, .inr (13, fs))]) C.1 C.2.1 C.2.2.2.2 i_AL C.2.2.2.1 hE.1 (hR.p1 h1) 0 rfl rfl 2 (by decide) (C.2.2.2.2 _ hlink) (fun x9 h9 => u_same (C.2.2.2.2 _ kf_AL_same) x9 h9) (cI_of h1 h3 (by decide) (by decide)) hd (kk H locs ls hR hS hl)
theorem k_putS (C : CallFix p m c cc nL s args gT own) (hE : gEnv D gcl (gtys cs) gz B dE s) {idx a : Nat} {x : Int32} (hlink : Cond.fieldLink own idx R_AL "modCount" "I" ∈ gT) (hd : decode cc pc = .ok (.putfield idx, 3)) (ha : cOk 13 M a) (kk : GW p l e R s m args below meth c nL (gA B) Q (gR D gcl B (cP 13 M a 2 (.int x))) ((cP 13 M a 2 (.int x)).2.1 - M0.2.1) ((cP 13 M a 2 (.int x)).2.2 - M0.2.2) (pc + 3) lv st) : GW p l e R s m args below meth c nL (gA B) Q (gR D gcl B M) (M.2.1 - M0.2.1) (M.2.2 - M0.2.2) pc lv (.int x :: .ref a :: st) := by
  obtain ⟨fs, h1, h3⟩ := ha
  unfold cP at kk
  rw [cO_of h1] at kk
  have hl0 : 2 < fs.length := by rw [h3.1]; decide
  intro H locs ls hR hS hl
  have hap := va_apart (own := own) C.2.2.2.2 i_AL t_AL t_AL_ok n_AL hE.1 (show gcl[13]? = some (R_AL, F_AL, 3) from rfl)
  obtain ⟨r0, g1, cell, q1, q2, q3, q4⟩ := (hR.2 a _ h1).2
  have hr0 : r0 = (R_AL, F_AL, 3) := Option.some.inj (g1.symm.trans rfl)
  subst hr0
  obtain ⟨hSl, hfc, kC, hkC, hkind⟩ := hE.1.1 13 _ (show gcl[13]? = some (R_AL, F_AL, 3) from rfl)
  have h2 : (2 : Nat) < 3 := by decide
  obtain ⟨cf, kf, fi, f, hi, hsl⟩ := hSl 2 h2
  have hlay := C.2.2.2.2 _ (i_AL _ (u_in_lay h2))
  unfold u_lay at hlay
  rw [if_neg (by decide)] at hlay
  have hst := (u_facts hfc hkC (u_lays C.2.2.2.2 i_AL h2) hi).1
  have h6 := u_store (v := .int x) hfc hkC hkind hlay hi (t_AL_ok 2 h2) rfl rfl
  refine W.putK C.1 C.2.1 (f := f) ⟨C.2.2.2.1, C.2.2.2.2 _ hlink, ⟨_, _, _, u_same (C.2.2.2.2 _ kf_AL_same) _ hi⟩, hst⟩ (by rw [q2]; exact h6) q1 q3 (by rw [hsl]; exact k2_hasslot (q4 2 h2)) rfl rfl hd fun H' e1 e2 e3 => ?_
  rw [hsl] at e1 ⊢
  exact kk H' _ ls (hR.put1 h1 ⟨_, g1, t_OB.to (V := updV (vp_V fs) 2 (.int x)) ⟨_, e1, q2, q3, t_set q4 hap h2 (.int x)⟩ (fun j _ => vp_updV_set hl0 (.int x) j)⟩ e2 e3) (hS.put e2 e3 (hR.2 a _ h1).1) hl
end CLn
