/-! what holds at the law's entry -/
theorem arr_p {s : State} {args : Array Value} {ty : FieldType} (h : (Cond.arrayClass ty).before args s = true) : ∃ cA : ClassId, ArrOfT s cA ty ∧ s.vm.findClass ("[" ++ ty.toString) = some cA := by
  obtain ⟨cA, k, comp, h1, h2, h3⟩ := Cond.arrayClass_spec h
  exact ⟨cA, fun N z => ⟨(fun k h => by cases h), k, h2, comp, h3⟩, h1⟩
theorem arr_o {s : State} {args : Array Value} {C : String} (h : (Cond.arrayOver (.object C)).before args s = true) : ∃ cA : ClassId, ArrOfT s cA (.object C) ∧ va_RA s cA (.object C) := by
  obtain ⟨comp, cA, k, h1, -, h2, h3, h4⟩ := Cond.arrayOver_spec h
  exact ⟨cA, fun N z => ⟨(fun k h => by cases h), k, h2, comp, h3⟩, k, comp, h2, h3, h1, h4⟩
theorem str_of {s : State} {args : Array Value} {own tx : String} {i : Nat} (h : (Cond.stringRef own i tx).before args s = true) : ∃ a : Nat, vk_R own i tx a s := by
  cases hc : s.vm.findClass own with
  | none => simp [Cond.before, Cond.holds, Cond.value, hc] at h
  | some c =>
    obtain ⟨k, cf, j, a, -, -, -, -, -, he⟩ := Cond.stringRef_spec hc h
    exact ⟨a, vk_R.of h he⟩
theorem gz_ok {s : State} {args : Array Value} {w : Cond} (hw : gzb w = true) (h : w.before args s = true) : gz1 w s := by
  unfold gzb at hw
  split at hw
  · exact ⟨trivial, va_Nw.of rfl h⟩
  · exact ⟨trivial, va_Nw.of rfl h⟩
  · exact ⟨trivial, va_Nw.of rfl h⟩
  · exact ⟨trivial, va_Nw.of rfl h⟩
  · exact ⟨trivial, va_AO.of h⟩
  · exact str_of h
  · cases hw
theorem nc_of {s : State} {args : Array Value} {a b : String} (h : (Cond.not (Cond.castable a b)).before args s = true) : gNc1 a b s := by
  cases h1 : s.vm.findClass a with
  | none => simp [Cond.before, Cond.holds, Cond.value, h1] at h
  | some c =>
    cases h2 : s.vm.findClass b with
    | none => simp [Cond.before, Cond.holds, Cond.value, h1, h2] at h
    | some d =>
      refine ⟨c, d, h1, h2, ?_⟩
      cases h3 : s.vm.assignable c d with
      | false => rfl
      | true => simp [Cond.before, Cond.holds, Cond.value, h1, h2, h3] at h
theorem ls_of {s : State} {args : Array Value} {n d : String} (h : (Cond.laysStatic "java/lang/Throwable" n d).before args s = true) : gLs s.heap.size n d s := by
  obtain ⟨c, k, i, f, a, cell, h1, h2, h3, h4, h5, h6, h7, h8, h9⟩ := Cond.laysStatic_spec h
  exact ⟨c, k, i, f, a, cell, h1, h2, h3, h4, h5, h6, h7, h8, h9, (Array.getElem?_eq_some_iff.mp h5).1⟩
theorem kn_of {s : State} {args : Array Value} (hT : ∀ w ∈ gT, w.before args s = true) (c : Nat) : ∃ x : ClassId × (Nat → Nat), ∀ q, gcl[c]? = some q → u_Kn s q.1 q.2.1 q.2.2 x.1 x.2 := by
  have key : ∀ (C : String) (T : u_T) (N n : Nat), (∀ w ∈ u_ws C T N, w ∈ gT) → Cond.instantiable C n ∈ gT → ∃ x : ClassId × (Nat → Nat), u_Kn s C T N x.1 x.2 := fun C T N n h1 h2 => by
    obtain ⟨cC, iS, h⟩ := u_known hT h1 (hT _ h2)
    exact ⟨(cC, iS), h⟩
  have fin : ∀ q0 : vw_C, (∃ x : ClassId × (Nat → Nat), u_Kn s q0.1 q0.2.1 q0.2.2 x.1 x.2) → gcl[c]? = some q0 → ∃ x : ClassId × (Nat → Nat), ∀ q, gcl[c]? = some q → u_Kn s q.1 q.2.1 q.2.2 x.1 x.2 := fun q0 h hq => by
    obtain ⟨x, hx⟩ := h
    refine ⟨x, fun q h2 => ?_⟩
    rw [hq] at h2
    cases h2
    exact hx
  match c with
  | 0 => exact fin (R_N, F_N, 7) (key _ _ _ _ i_N kn_N) rfl
  | 1 => exact fin (R_Ty, F_Ty, 5) (key _ _ _ _ i_Ty kn_Ty) rfl
  | 2 => exact fin (R_Ce, F_Ce, 1) (key _ _ _ _ i_Ce kn_Ce) rfl
  | 3 => exact fin (R_Ns, F_Ns, 7) (key _ _ _ _ i_Ns kn_Ns) rfl
  | 4 => exact fin (R_No, F_No, 11) (key _ _ _ _ i_No kn_No) rfl
  | 5 => exact fin (R_Cl, F_Cl, 4) (key _ _ _ _ i_Cl kn_Cl) rfl
  | 6 => exact fin (R_Ck, F_Ck, 8) (key _ _ _ _ i_Ck kn_Ck) rfl
  | 7 => exact fin (R_Co, F_Co, 3) (key _ _ _ _ i_Co kn_Co) rfl
  | 8 => exact fin (R_Ma, F_Ma, 14) (key _ _ _ _ i_Ma kn_Ma) rfl
  | 9 => exact fin (R_St, F_St, 5) (key _ _ _ _ i_St kn_St) rfl
  | 10 => exact fin (R_Fr, F_Fr, 5) (key _ _ _ _ i_Fr kn_Fr) rfl
  | 11 => exact fin (R_Th, F_Th, 7) (key _ _ _ _ i_Th kn_Th) rfl
  | 12 => exact fin (R_Mo, F_Mo, 67) (key _ _ _ _ i_Mo kn_Mo) rfl
  | 13 => exact fin (R_AL, F_AL, 3) (key _ _ _ _ i_AL kn_AL) rfl
  | k + 14 => exact ⟨(0, fun _ => 0), fun q hq => by cases hq⟩
theorem lw_env {s : State} {b : Nat} (hts : ∀ w ∈ lw_tbl, w.before #[Value.ref b] s = true) (hgv : (Jvm.Cond.and given_1 narrow_1).before #[Value.ref b] s = true) : ∃ (D : va_G) (cs : Nat → ClassId) (dE : Nat × Nat), gEnv D gcl (gtys cs) gz s.heap.size dE s ∧ dE.1 < s.heap.size := by
  have hT : ∀ w ∈ gT, w.before #[Value.ref b] s = true := fun w h => hts w (List.mem_filter.mp h).1
  have hz : gZ gz s := fun w h => gz_ok (List.mem_filter.mp h).2 (hts w (List.mem_append_right _ (List.mem_filter.mp h).1))
  have hv := flat_of_before _ hgv
  have hA : ∀ a : Nat, a < s.heap.size → ¬ gA s.heap.size a := fun a h => Nat.not_le.mpr h
  obtain ⟨f, hf⟩ := Classical.skolem.mp (kn_of hT)
  obtain ⟨c0, a0, f0⟩ := arr_p (hT _ ka_int)
  obtain ⟨c1, a1, f1⟩ := arr_p (hT _ ka_boolean)
  obtain ⟨c2, a2, f2⟩ := arr_p (hT _ ka_long)
  obtain ⟨c3, a3, f3⟩ := arr_o (va_AO.use (A := #[Value.ref b]) (show gzok _ ∧ va_Nw _ s from hz _ ko_No).2)
  obtain ⟨c4, a4, f4⟩ := arr_o (va_AO.use (A := #[Value.ref b]) (show gzok _ ∧ va_Nw _ s from hz _ ko_Cl).2)
  obtain ⟨c5, a5, f5⟩ := arr_o (va_AO.use (A := #[Value.ref b]) (show gzok _ ∧ va_Nw _ s from hz _ ko_Ob).2)
  have hD := hv (Cond.arrayOf (.static "java/util/ArrayList" "DEFAULTCAPACITY_EMPTY_ELEMENTDATA" "[Ljava/lang/Object;") (.object "java/lang/Object")) (by decide +kernel)
  have hN := va_eqt (hv (Cond.eq (.length (.static "java/util/ArrayList" "DEFAULTCAPACITY_EMPTY_ELEMENTDATA" "[Ljava/lang/Object;")) (.int 0)) (by decide +kernel))
  obtain ⟨t, ht, hVT⟩ := va_Tof (N := 0) (f := fun _ => .null) (A := gA s.heap.size) (by decide) hD hN (fun j hj => absurd hj (Nat.not_lt_zero _)) hA
  obtain ⟨mi, hmi⟩ := va_Mi.of (hv (Cond.isRef (.mirror "[Ljava/lang/Object;")) (by decide +kernel))
  have htl : t < s.heap.size := by
    obtain ⟨cell, h1, -⟩ := hVT
    exact (Array.getElem?_eq_some_iff.mp h1).1
  refine ⟨(fun c => (f c).1, fun c => (f c).2), fun k => match k with | 0 => c0 | 1 => c1 | 2 => c2 | 3 => c3 | 4 => c4 | _ => c5, (t, mi), ⟨⟨fun c q hq => hf c q hq, fun k q hk => ?_⟩, hz, ?_⟩, htl⟩
  · match k with
    | 0 => cases hk; exact ⟨a0, f0⟩
    | 1 => cases hk; exact ⟨a1, f1⟩
    | 2 => cases hk; exact ⟨a2, f2⟩
    | 3 => cases hk; exact ⟨a3, f3⟩
    | 4 => cases hk; exact ⟨a4, f4⟩
    | 5 => cases hk; exact ⟨a5, f5⟩
    | k + 6 => cases hk
  · have hw1 := hts (Cond.laysStatic "java/lang/Throwable" "UNASSIGNED_STACK" "[Ljava/lang/StackTraceElement;") (by decide +kernel)
    have hw2 := hts (Cond.laysStatic "java/lang/Throwable" "SUPPRESSED_SENTINEL" "Ljava/util/List;") (by decide +kernel)
    have hw3 := hts (Cond.laysStatic "java/util/ArrayList" "DEFAULTCAPACITY_EMPTY_ELEMENTDATA" "[Ljava/lang/Object;") (by decide +kernel)
    exact ⟨va_Zqof hw1 (hT _ ki_Tw) (hv _ (by decide +kernel)) hA, va_Zqof hw2 (hT _ ki_Tw) (hv _ (by decide +kernel)) hA, va_Zof hw3 (hT _ ki_AL) ht hA, hVT, ls_of hw1, ls_of hw2, hmi, nc_of (hv _ (by decide +kernel)), nc_of (hv _ (by decide +kernel)), nc_of (hv _ (by decide +kernel))⟩
