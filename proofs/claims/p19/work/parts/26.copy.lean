section CLm
variable {p : Program} {l : Launch} {e : Env} {R : Room} {s : State} {m : MethodId} {args : Array Value} {below : List Frame} {meth : Method} {c : Code} {nL : Nat} {D : va_G} {B : Nat} {dE : Nat × Nat} {A : Nat → Prop} {Q : State → Prop} {M0 M : gMem} {pc : Nat} {lv : List (Nat × Value)} {rest st : List Value} {cc : ByteArray} {own : String} {cs : Nat → ClassId} {lim : Nat × Nat}
/-- ints copied from one array into another -/
def aCp (cA : ClassId) (M : gMem) (a0 a sp dp n : Nat) : gMem := gup M a (1, .inl (cA, aL M a, .inl (va_cpy (aF M a0) (aF M a) sp dp n)))
theorem cLe.aCp {cA : ClassId} {a0 a sp dp n : Nat} (h : cLe lim M0 M) : cLe lim M0 (aCp cA M a0 a sp dp n) := h
theorem i32_nn {z : Int32} (hz : ¬ z < 0) : z.toInt = (z.toNatClampNeg : Int) := by
  have hz0 : (0 : Int) ≤ z.toInt := by
    have := Int32.not_lt.mp hz
    simpa using Int32.le_iff_toInt_le.mp this
  show z.toInt = ((z.toInt.toNat : Nat) : Int)
  omega
theorem k_copyi (C : CallFix p m c cc nL s args gT own) (hK : va_K D gcl (gtys cs) s) {idx a0 a : Nat} {sp dp n : Int32} (hlink : Cond.methodLink own idx arraycopyName ∈ gT) (hnat : Cond.native arraycopyName ∈ gT) (hstat : Cond.static arraycopyName ∈ gT) (hini : Cond.initialized "java/lang/System" ∈ gT) (hd : decode cc pc = .ok (.invokestatic idx, 3)) (ha0 : aIk (cs 0) M a0) (ha1 : aIk (cs 0) M a) (h : (¬ sp < 0 ∧ ¬ dp < 0 ∧ ¬ n < 0) ∧ sp.toNatClampNeg + n.toNatClampNeg ≤ aL M a0 ∧ dp.toNatClampNeg + n.toNatClampNeg ≤ aL M a) (hfr : 1 ≤ R.frames) (hlo : (rest.map fun v => v.category).sum + (nativeFrameWords "java/lang/System" "arraycopy" 5 + 11) ≤ R.locals) (k : GW p l e R s m args below meth c nL (gA B) Q (gR D gcl B (aCp (cs 0) M a0 a sp.toNatClampNeg dp.toNatClampNeg n.toNatClampNeg)) ((aCp (cs 0) M a0 a sp.toNatClampNeg dp.toNatClampNeg n.toNatClampNeg).2.1 - M0.2.1) ((aCp (cs 0) M a0 a sp.toNatClampNeg dp.toNatClampNeg n.toNatClampNeg).2.2 - M0.2.2) (pc + 3) lv rest) : GW p l e R s m args below meth c nL (gA B) Q (gR D gcl B M) (M.2.1 - M0.2.1) (M.2.2 - M0.2.2) pc lv (.int n :: .int dp :: .ref a :: .int sp :: .ref a0 :: rest) := fun H locs ls hR hS hl => by
  obtain ⟨⟨h1, h2, h3⟩, h4, h5⟩ := h
  obtain ⟨n0, f, e0⟩ := ha0
  obtain ⟨n1, g, e1⟩ := ha1
  have l0 : aL M a0 = n0 := by unfold aL; rw [e0]
  have l1 : aL M a = n1 := by unfold aL; rw [e1]
  have f0 : aF M a0 = f := by unfold aF; rw [e0]
  have f1 : aF M a = g := by unfold aF; rw [e1]
  have ht : (gtys cs)[0]? = some (cs 0, FieldType.int) := rfl
  rw [l0] at h4
  rw [l1] at h5
  intro T hT X
  have hc0 : H[a0]? = some (vp_cell (cs 0) (n0, .inl f)) := (hR.2 a0 _ e0).2
  have hc1 : H[a]? = some (vp_cell (cs 0) (n1, .inl g)) := (hR.2 a _ e1).2
  obtain ⟨-, k0, hk0, cm0, hkk0⟩ := (hK.2 0 _ ht).1 n0 (fun j => .int (f j))
  obtain ⟨-, k1, hk1, cm1, hkk1⟩ := (hK.2 0 _ ht).1 n1 (fun j => .int (g j))
  obtain ⟨vm', X', step⟩ := X.arraycopy C.1 C.2.2.2.1 (C.2.2.2.2 _ hlink) (C.2.2.2.2 _ hnat) (C.2.2.2.2 _ hstat) (C.2.2.2.2 _ hini) (src := a0) (dst := a) (cs := vp_cell (cs 0) (n0, .inl f)) (cd := vp_cell (cs 0) (n1, .inl g)) (srcPos := sp) (destPos := dp) (n := n) (by rw [hT]; exact hc0) (by rw [hT]; exact hc1)
    (fun _ h => by cases h) (fun _ h => by cases h) (fun h => by cases h) (fun h => by cases h) hk0 hk1 hkk0 hkk1 (by simp [refKind]) h1 h2 h3
    (by rw [i32_nn h1, i32_nn h3]; show ¬ _ > ((arrV (cs 0) n0 (fun j => .int (f j))).slots.size : Int); rw [arrV_size]; omega)
    (by rw [i32_nn h2, i32_nn h3]; show ¬ _ > ((arrV (cs 0) n1 (fun j => .int (g j))).slots.size : Int); rw [arrV_size]; omega)
    (fun vm₁ _ i hi => by
      have e : (vp_cell (cs 0) (n0, .inl f)).slots.getD (sp.toNatClampNeg + i) .null = .int (f (sp.toNatClampNeg + i)) := by
        show (arrV (cs 0) n0 (fun j => .int (f j))).slots.getD _ _ = _
        rw [Array.getD_eq_getD_getElem?, arrV_read _ _ (by omega)]
        rfl
      refine ⟨?_, ?_⟩
      · rw [e]; rfl
      · rw [e]; exact trivial)
    (g := F0 m pc ls (.int n :: .int dp :: .ref a :: .int sp :: .ref a0 :: rest)) rfl (by rw [C.2.2.1, hl.1]) (rest := rest) rfl (by rw [C.2.1]; exact hd) hfr (by show 2 * 0 + _ + _ ≤ _; omega)
  have ec : copied (vp_cell (cs 0) (n0, .inl f)) (vp_cell (cs 0) (n1, .inl g)) sp dp n = vp_cell (cs 0) (n1, .inl (va_cpy f g sp.toNatClampNeg dp.toNatClampNeg n.toNatClampNeg)) := va_copied (fun z => .int z) (cs 0) (cs 0) f g h4
  rw [ec] at X' step
  have hlt : a < H.size := (Array.getElem?_eq_some_iff.mp hc1).1
  have hheap : ((T.setVm vm').setCell a (vp_cell (cs 0) (n1, .inl (va_cpy f g sp.toNatClampNeg dp.toNatClampNeg n.toNatClampNeg)))).heap = H.setIfInBounds a (vp_cell (cs 0) (n1, .inl (va_cpy f g sp.toNatClampNeg dp.toNatClampNeg n.toNatClampNeg))) := by rw [← hT]; rfl
  have oq : ∀ q : Nat, q ≠ a → (H.setIfInBounds a (vp_cell (cs 0) (n1, .inl (va_cpy f g sp.toNatClampNeg dp.toNatClampNeg n.toNatClampNeg))))[q]? = H[q]? := fun q hq => by simp [Array.getElem?_setIfInBounds, Ne.symm hq]
  have hBa : B ≤ a := (hR.2 a _ e1).1
  have hR' : gR D gcl B (aCp (cs 0) M a0 a sp.toNatClampNeg dp.toNatClampNeg n.toNatClampNeg) (H.setIfInBounds a (vp_cell (cs 0) (n1, .inl (va_cpy f g sp.toNatClampNeg dp.toNatClampNeg n.toNatClampNeg)))) := by
    unfold aCp
    rw [l1, f0, f1]
    exact hR.put1 e1 (show (H.setIfInBounds a _)[a]? = some _ by simp [Array.getElem?_setIfInBounds, hlt]) (by simp) oq
  obtain ⟨t, a1, b1⟩ := k _ _ ls hR' ⟨by simp; exact hS.1, fun q g1 g2 => by
      rw [oq q (fun e => g2 (by rw [e]; exact hBa))]
      exact hS.2.1 q g1 g2, fun q hq => by
      rcases List.mem_append.mp hq with h | h
      · exact hS.2.2 q h
      · obtain ⟨z, -, hz⟩ := List.mem_map.mp h
        rw [← hz]
        exact hBa⟩ hl _ hheap X'
  exact ⟨t, step t a1, b1⟩
end CLm
