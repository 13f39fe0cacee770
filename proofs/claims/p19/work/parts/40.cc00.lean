/-! the class's methods as functions over the memory: by program (wip/tools/cdecomp.py) -/
def F_Ce_init (cs : Nat → ClassId) (M : gMem) (a0 : Nat) : gMem := cP 2 (gnw M (1, .inl (cs 0, (16 : Int32).toNatClampNeg, .inl (fun _ => 0))) (16 : Int32).toNatClampNeg) a0 0 (va_rf (some M.2.1))
def S_Ce_init (cs : Nat → ClassId) (lim : Nat × Nat) (M : gMem) (a0 : Nat) : Prop := ((¬ (16 : Int32) < 0 ∧ (16 : Int32).toNatClampNeg * 4 ≤ 536870912) ∧ M.2.1 + 1 ≤ lim.1 ∧ M.2.2 + (16 : Int32).toNatClampNeg ≤ lim.2) ∧ ((cOk 2 (gnw M (1, .inl (cs 0, (16 : Int32).toNatClampNeg, .inl (fun _ => 0))) (16 : Int32).toNatClampNeg) a0) ∧ (True))
set_option maxRecDepth 100000 in
set_option maxHeartbeats 4000000 in
theorem cc_Ce_init (l : Launch) (hf : l.flags = pinnedFlags ++ [noTraceFlag]) (D : va_G) (cs : Nat → ClassId) (B : Nat) (dE : Nat × Nat) (lim : Nat × Nat) (M : gMem) (a0 : Nat) (hS : S_Ce_init cs lim M a0) : cMet l y_Ce_init (Cond.code y_Ce_init c_Ce_init 1 none) (1) (20) D cs B dE (gA B) lim [.ref a0] M (fun x M' => x = .inl none ∧ M' = (F_Ce_init cs M a0)) := by
  refine cMet.ofW (by decide) (Nat.le_of_ble_eq_true rfl) (lv0 := [(0, .ref a0)]) rfl ?_
  intro p e s m args below meth c C hE hR0 hle hr hlocks hex hn
  generalize hF : F_Ce_init cs M a0 = Fv
  unfold F_Ce_init at hF
  unfold S_Ce_init at hS
  refine g_aload_n C d_Ce_init_0 rfl ?_
  refine g_objInit C km_Ce_1 kv_Ob_init kd_Ob_init d_Ce_init_1 (Nat.le_of_ble_eq_true rfl) (Nat.le_of_ble_eq_true rfl) ?_
  refine g_aload_n C d_Ce_init_4 rfl ?_
  refine g_bipush (v := 16) C d_Ce_init_5 (by decide) ?_
  refine GW.more (A' := gA B) (fun _ h => h.elim) ?_
  obtain ⟨hl1, hS⟩ := hS
  refine c_newi (M0 := M) (M := M) C hE.1 ⟨rfl, rfl⟩ hle hl1.1.1 hl1.1.2 d_Ce_init_7 hl1.2 (fun hle => ?_)
  obtain ⟨ho3, hS⟩ := hS
  refine GW.eqs (st' := [va_rf (some M.2.1), .ref a0]) rfl ?_
  refine k_put (M0 := M) (M := gnw M (1, .inl (cs 0, (16 : Int32).toNatClampNeg, .inl (fun _ => 0))) (16 : Int32).toNatClampNeg) C hE.1 (ci := 2) i_Ce rfl 0 (by decide) (by decide) kf_Ce_7 t_Ce t_Ce_ok n_Ce rfl (nf_q _ (Or.inr ⟨_, rfl⟩) _) d_Ce_init_9 ho3 ?_
  replace hle := cLe.cP (ci := 2) (a := a0) (k := 0) (v := va_rf (some M.2.1)) hle
  exact c_vret (M := cP 2 (gnw M (1, .inl (cs 0, (16 : Int32).toNatClampNeg, .inl (fun _ => 0))) (16 : Int32).toNatClampNeg) a0 0 (va_rf (some M.2.1))) C hr hlocks hle d_Ce_init_12 (by rw [← hF]; exact ⟨rfl, rfl⟩)
def F_Ce_at (cs : Nat → ClassId) (M : gMem) (a0 : Nat) (x1 : Int32) : Int32 := if x1 < 0 then (0) else (if (nI (aL M ((cQ M a0 0).getD 0))) ≤ x1 then (0) else (aF M ((cQ M a0 0).getD 0) x1.toNatClampNeg))
def S_Ce_at (cs : Nat → ClassId) (lim : Nat × Nat) (M : gMem) (a0 : Nat) (x1 : Int32) : Prop := if x1 < 0 then (True) else ((cOk 2 M a0) ∧ ((cQ M a0 0 = some ((cQ M a0 0).getD 0) ∧ ∃ x, M.1 ((cQ M a0 0).getD 0) = some (1, .inl (cs 0, x))) ∧ (if (nI (aL M ((cQ M a0 0).getD 0))) ≤ x1 then (True) else ((cOk 2 M a0) ∧ ((cQ M a0 0 = some ((cQ M a0 0).getD 0) ∧ aIk (cs 0) M ((cQ M a0 0).getD 0)) ∧ ((vp_in x1 (aL M ((cQ M a0 0).getD 0))) ∧ (True)))))))
set_option maxRecDepth 100000 in
set_option maxHeartbeats 4000000 in
theorem cc_Ce_at (l : Launch) (hf : l.flags = pinnedFlags ++ [noTraceFlag]) (D : va_G) (cs : Nat → ClassId) (B : Nat) (dE : Nat × Nat) (lim : Nat × Nat) (M : gMem) (a0 : Nat) (x1 : Int32) (hS : S_Ce_at cs lim M a0 x1) : cMet l y_Ce_at (Cond.code y_Ce_at c_Ce_at 2 (some .int)) (0) (0) D cs B dE (fun _ => False) lim [.ref a0, .int x1] M (fun x M' => x = .inl (some (.int (F_Ce_at cs M a0 x1))) ∧ M' = M) := by
  refine cMet.ofW (by decide) (Nat.le_of_ble_eq_true rfl) (lv0 := [(0, .ref a0), (1, .int x1)]) rfl ?_
  intro p e s m args below meth c C hE hR0 hle hr hlocks hex hn
  generalize hF : F_Ce_at cs M a0 x1 = Fv
  unfold F_Ce_at at hF
  unfold S_Ce_at at hS
  refine g_iload_n C d_Ce_at_0 rfl ?_
  refine g_if_lt C 22 d_Ce_at_1 (by decide) (fun hc1 => ?_) (fun hc1 => ?_)
  · rw [if_pos hc1] at hF hS
    refine g_iconst (v := 0) C d_Ce_at_22 (by decide) ?_
    exact c_iret (M := M) C hr hlocks hle d_Ce_at_23 (by rw [← hF]; exact ⟨rfl, rfl⟩)
  · rw [if_neg hc1] at hF hS
    refine g_iload_n C d_Ce_at_4 rfl ?_
    refine g_aload_n C d_Ce_at_5 rfl ?_
    obtain ⟨ho2, hS⟩ := hS
    refine c_getq C hE.1 (ci := 2) i_Ce rfl 0 (by decide) (by decide) (by decide) kf_Ce_7 d_Ce_at_6 ho2 ?_
    obtain ⟨ha3, hS⟩ := hS
    refine GW.known1 (a := (cQ M a0 0).getD 0) ha3.1 ?_
    refine c_alen C hE.1 0 rfl d_Ce_at_9 ha3.2 ?_
    refine g_icmp_ge C 22 d_Ce_at_10 (by decide) (fun hc4 => ?_) (fun hc4 => ?_)
    · rw [if_pos hc4] at hF hS
      refine g_iconst (v := 0) C d_Ce_at_22 (by decide) ?_
      exact c_iret (M := M) C hr hlocks hle d_Ce_at_23 (by rw [← hF]; exact ⟨rfl, rfl⟩)
    · rw [if_neg hc4] at hF hS
      refine g_aload_n C d_Ce_at_13 rfl ?_
      obtain ⟨ho5, hS⟩ := hS
      refine c_getq C hE.1 (ci := 2) i_Ce rfl 0 (by decide) (by decide) (by decide) kf_Ce_7 d_Ce_at_14 ho5 ?_
      refine g_iload_n C d_Ce_at_17 rfl ?_
      obtain ⟨ha6, hS⟩ := hS
      refine GW.known2 (a := (cQ M a0 0).getD 0) ha6.1 ?_
      obtain ⟨hi7, hS⟩ := hS
      refine c_iald C hE.1 d_Ce_at_18 ha6.2 hi7 ?_
      refine g_goto C 23 d_Ce_at_19 (by decide) ?_
      exact c_iret (M := M) C hr hlocks hle d_Ce_at_23 (by rw [← hF]; exact ⟨rfl, rfl⟩)
def F_Ar_copyOf (cs : Nat → ClassId) (M : gMem) (x0 : Option Nat) (x1 : Int32) : Option Nat × gMem := if x1 = (nI (aL M (x0.getD 0))) then ((none, M)) else (mbind ((if x1 < (nI (aL (gnw M (1, .inl (cs 0, x1.toNatClampNeg, .inl (fun _ => 0))) x1.toNatClampNeg) (x0.getD 0))) then x1 else nI (aL (gnw M (1, .inl (cs 0, x1.toNatClampNeg, .inl (fun _ => 0))) x1.toNatClampNeg) (x0.getD 0)) : Int32)) (fun w6 => (some M.2.1, aCp (cs 0) (gnw M (1, .inl (cs 0, x1.toNatClampNeg, .inl (fun _ => 0))) x1.toNatClampNeg) (x0.getD 0) M.2.1 (0 : Int32).toNatClampNeg (0 : Int32).toNatClampNeg w6.toNatClampNeg)))
def S_Ar_copyOf (cs : Nat → ClassId) (lim : Nat × Nat) (M : gMem) (x0 : Option Nat) (x1 : Int32) : Prop := (x0 = some (x0.getD 0) ∧ ∃ x, M.1 (x0.getD 0) = some (1, .inl (cs 0, x))) ∧ (if x1 = (nI (aL M (x0.getD 0))) then (False) else (((¬ x1 < 0 ∧ x1.toNatClampNeg * 4 ≤ 536870912) ∧ M.2.1 + 1 ≤ lim.1 ∧ M.2.2 + x1.toNatClampNeg ≤ lim.2) ∧ ((x0 = some (x0.getD 0) ∧ ∃ x, (gnw M (1, .inl (cs 0, x1.toNatClampNeg, .inl (fun _ => 0))) x1.toNatClampNeg).1 (x0.getD 0) = some (1, .inl (cs 0, x))) ∧ (mbind ((if x1 < (nI (aL (gnw M (1, .inl (cs 0, x1.toNatClampNeg, .inl (fun _ => 0))) x1.toNatClampNeg) (x0.getD 0))) then x1 else nI (aL (gnw M (1, .inl (cs 0, x1.toNatClampNeg, .inl (fun _ => 0))) x1.toNatClampNeg) (x0.getD 0)) : Int32)) (fun w6 => (x0 = some (x0.getD 0) ∧ aIk (cs 0) (gnw M (1, .inl (cs 0, x1.toNatClampNeg, .inl (fun _ => 0))) x1.toNatClampNeg) (x0.getD 0)) ∧ ((aIk (cs 0) (gnw M (1, .inl (cs 0, x1.toNatClampNeg, .inl (fun _ => 0))) x1.toNatClampNeg) M.2.1) ∧ (((¬ (0 : Int32) < 0 ∧ ¬ (0 : Int32) < 0 ∧ ¬ w6 < 0) ∧ (0 : Int32).toNatClampNeg + w6.toNatClampNeg ≤ aL (gnw M (1, .inl (cs 0, x1.toNatClampNeg, .inl (fun _ => 0))) x1.toNatClampNeg) (x0.getD 0) ∧ (0 : Int32).toNatClampNeg + w6.toNatClampNeg ≤ aL (gnw M (1, .inl (cs 0, x1.toNatClampNeg, .inl (fun _ => 0))) x1.toNatClampNeg) M.2.1) ∧ (True))))))))
set_option maxRecDepth 100000 in
set_option maxHeartbeats 4000000 in
theorem cc_Ar_copyOf (l : Launch) (hf : l.flags = pinnedFlags ++ [noTraceFlag]) (D : va_G) (cs : Nat → ClassId) (B : Nat) (dE : Nat × Nat) (lim : Nat × Nat) (M : gMem) (x0 : Option Nat) (x1 : Int32) (hS : S_Ar_copyOf cs lim M x0 x1) : cMet l y_Ar_copyOf (Cond.code y_Ar_copyOf c_Ar_copyOf 3 (some (.array .int))) (1) (60) D cs B dE (gA B) lim [va_rf x0, .int x1] M (fun x M' => x = .inl (some (va_rf ((F_Ar_copyOf cs M x0 x1).1))) ∧ M' = (F_Ar_copyOf cs M x0 x1).2) := by
  refine cMet.ofW (by decide) (by cases x0 <;> exact Nat.le_of_ble_eq_true rfl) (lv0 := [(0, va_rf x0), (1, .int x1)]) (by cases x0 <;> rfl) ?_
  intro p e s m args below meth c C hE hR0 hle hr hlocks hex hn
  generalize hF : F_Ar_copyOf cs M x0 x1 = Fv
  unfold F_Ar_copyOf at hF
  unfold S_Ar_copyOf at hS
  refine g_iload_n C d_Ar_copyOf_0 rfl ?_
  refine q_aload_n (r := x0) C d_Ar_copyOf_1 rfl ?_
  obtain ⟨ha1, hS⟩ := hS
  refine GW.known1 (a := x0.getD 0) ha1.1 ?_
  refine c_alen C hE.1 0 rfl d_Ar_copyOf_2 ha1.2 ?_
  refine g_icmp_ne C 14 d_Ar_copyOf_3 (by decide) (fun hc2 => ?_) (fun hc2 => ?_)
  · rw [if_neg hc2] at hF hS
    refine g_iload_n C d_Ar_copyOf_14 rfl ?_
    refine GW.more (A' := gA B) (fun _ h => h.elim) ?_
    obtain ⟨hl3, hS⟩ := hS
    refine c_newi (M0 := M) (M := M) C hE.1 ⟨rfl, rfl⟩ hle hl3.1.1 hl3.1.2 d_Ar_copyOf_15 hl3.2 (fun hle => ?_)
    refine g_astore_n (lv' := [(2, .ref M.2.1), (0, va_rf x0), (1, .int x1)]) C d_Ar_copyOf_17 (by decide) rfl ?_
    refine q_aload_n (r := x0) C d_Ar_copyOf_18 rfl ?_
    refine g_iconst (v := 0) C d_Ar_copyOf_19 (by decide) ?_
    refine g_aload_n C d_Ar_copyOf_20 rfl ?_
    refine g_iconst (v := 0) C d_Ar_copyOf_21 (by decide) ?_
    refine q_aload_n (r := x0) C d_Ar_copyOf_22 rfl ?_
    obtain ⟨ha5, hS⟩ := hS
    refine GW.known1 (a := x0.getD 0) ha5.1 ?_
    refine c_alen C hE.1 0 rfl d_Ar_copyOf_23 ha5.2 ?_
    refine g_iload_n C d_Ar_copyOf_24 rfl ?_
    refine c_mmin (M0 := M) (M := gnw M (1, .inl (cs 0, x1.toNatClampNeg, .inl (fun _ => 0))) x1.toNatClampNeg) C ⟨rfl, rfl⟩ hle km_Ar_304 ks_Mt_min ki_Mt kx_mmin d_Ar_copyOf_25 (Nat.le_of_ble_eq_true rfl) (by simp only [List.map_cons, List.map_nil, rf_cat, List.sum_cons, List.sum_nil]; exact Nat.le_of_ble_eq_true rfl) ?_
    rw [mbind_eq] at hF hS
    generalize (if x1 < (nI (aL (gnw M (1, .inl (cs 0, x1.toNatClampNeg, .inl (fun _ => 0))) x1.toNatClampNeg) (x0.getD 0))) then x1 else nI (aL (gnw M (1, .inl (cs 0, x1.toNatClampNeg, .inl (fun _ => 0))) x1.toNatClampNeg) (x0.getD 0)) : Int32) = w6 at hF hS ⊢
    obtain ⟨ha7, hS⟩ := hS
    refine GW.known5 (a := x0.getD 0) ha7.1 ?_
    obtain ⟨ha8, hS⟩ := hS
    obtain ⟨hy9, hS⟩ := hS
    refine k_copyi (M0 := M) (M := gnw M (1, .inl (cs 0, x1.toNatClampNeg, .inl (fun _ => 0))) x1.toNatClampNeg) C hE.1 km_Ar_150 kt_Sy_arraycopy_x584 ks_Sy_arraycopy_x583 ki_Sy d_Ar_copyOf_28 ha7.2 ha8 hy9 (Nat.le_of_ble_eq_true rfl) (Nat.le_of_ble_eq_true rfl) ?_
    replace hle := cLe.aCp (cA := cs 0) (a0 := x0.getD 0) (a := M.2.1) (sp := (0 : Int32).toNatClampNeg) (dp := (0 : Int32).toNatClampNeg) (n := w6.toNatClampNeg) hle
    refine g_aload_n C d_Ar_copyOf_31 rfl ?_
    refine GW.eqs (st' := [va_rf (some M.2.1)]) rfl ?_
    exact c_aret (M := aCp (cs 0) (gnw M (1, .inl (cs 0, x1.toNatClampNeg, .inl (fun _ => 0))) x1.toNatClampNeg) (x0.getD 0) M.2.1 (0 : Int32).toNatClampNeg (0 : Int32).toNatClampNeg w6.toNatClampNeg) C hr (Or.inr ⟨_, rfl⟩) hlocks hle d_Ar_copyOf_32 (by rw [← hF]; exact ⟨rfl, rfl⟩)
  · rw [if_pos hc2] at hF hS
    exact hS.elim
def F_Ce_put (cs : Nat → ClassId) (M : gMem) (a0 : Nat) (x1 : Int32) (x2 : Int32) : gMem := if x1 < 0 then (M) else (if x1 < 65536 then (if x1 < (nI (aL M ((cQ M a0 0).getD 0))) then (aPi (cs 0) M ((cQ M a0 0).getD 0) x1.toNatClampNeg x2) else (mbind ((if (x1 + 1) < (2 * (nI (aL M ((cQ M a0 0).getD 0)))) then 2 * (nI (aL M ((cQ M a0 0).getD 0))) else x1 + 1 : Int32)) (fun w12 => mbind (F_Ar_copyOf cs M (cQ M a0 0) w12) (fun w14 => aPi (cs 0) (cP 2 w14.2 a0 0 (va_rf w14.1)) ((cQ (cP 2 w14.2 a0 0 (va_rf w14.1)) a0 0).getD 0) x1.toNatClampNeg x2)))) else (M))
def S_Ce_put (cs : Nat → ClassId) (lim : Nat × Nat) (M : gMem) (a0 : Nat) (x1 : Int32) (x2 : Int32) : Prop := if x1 < 0 then (True) else (if x1 < 65536 then ((cOk 2 M a0) ∧ ((cQ M a0 0 = some ((cQ M a0 0).getD 0) ∧ ∃ x, M.1 ((cQ M a0 0).getD 0) = some (1, .inl (cs 0, x))) ∧ (if x1 < (nI (aL M ((cQ M a0 0).getD 0))) then ((cOk 2 M a0) ∧ ((cQ M a0 0 = some ((cQ M a0 0).getD 0) ∧ aIk (cs 0) M ((cQ M a0 0).getD 0)) ∧ ((vp_in x1 (aL M ((cQ M a0 0).getD 0))) ∧ (True)))) else ((cOk 2 M a0) ∧ ((cOk 2 M a0) ∧ ((cQ M a0 0 = some ((cQ M a0 0).getD 0) ∧ ∃ x, M.1 ((cQ M a0 0).getD 0) = some (1, .inl (cs 0, x))) ∧ (mbind ((if (x1 + 1) < (2 * (nI (aL M ((cQ M a0 0).getD 0)))) then 2 * (nI (aL M ((cQ M a0 0).getD 0))) else x1 + 1 : Int32)) (fun w12 => (S_Ar_copyOf cs lim M (cQ M a0 0) w12) ∧ (mbind (F_Ar_copyOf cs M (cQ M a0 0) w12) (fun w14 => (cOk 2 w14.2 a0) ∧ ((cOk 2 (cP 2 w14.2 a0 0 (va_rf w14.1)) a0) ∧ ((cQ (cP 2 w14.2 a0 0 (va_rf w14.1)) a0 0 = some ((cQ (cP 2 w14.2 a0 0 (va_rf w14.1)) a0 0).getD 0) ∧ aIk (cs 0) (cP 2 w14.2 a0 0 (va_rf w14.1)) ((cQ (cP 2 w14.2 a0 0 (va_rf w14.1)) a0 0).getD 0)) ∧ ((vp_in x1 (aL (cP 2 w14.2 a0 0 (va_rf w14.1)) ((cQ (cP 2 w14.2 a0 0 (va_rf w14.1)) a0 0).getD 0))) ∧ (True)))))))))))))) else (True))
set_option maxRecDepth 100000 in
set_option maxHeartbeats 4000000 in
theorem cc_Ce_put (l : Launch) (hf : l.flags = pinnedFlags ++ [noTraceFlag]) (D : va_G) (cs : Nat → ClassId) (B : Nat) (dE : Nat × Nat) (lim : Nat × Nat) (M : gMem) (a0 : Nat) (x1 : Int32) (x2 : Int32) (hS : S_Ce_put cs lim M a0 x1 x2) : cMet l y_Ce_put (Cond.code y_Ce_put c_Ce_put 3 none) (2) (82) D cs B dE (gA B) lim [.ref a0, .int x1, .int x2] M (fun x M' => x = .inl none ∧ M' = (F_Ce_put cs M a0 x1 x2)) := by
  refine cMet.ofW (by decide) (Nat.le_of_ble_eq_true rfl) (lv0 := [(0, .ref a0), (1, .int x1), (2, .int x2)]) rfl ?_
  intro p e s m args below meth c C hE hR0 hle hr hlocks hex hn
  generalize hF : F_Ce_put cs M a0 x1 x2 = Fv
  unfold F_Ce_put at hF
  unfold S_Ce_put at hS
  refine g_iload_n C d_Ce_put_0 rfl ?_
  refine g_if_lt C 10 d_Ce_put_1 (by decide) (fun hc1 => ?_) (fun hc1 => ?_)
  · rw [if_pos hc1] at hF hS
    refine GW.more (A' := gA B) (fun _ h => h.elim) ?_
    exact c_vret (M := M) C hr hlocks hle d_Ce_put_10 (by rw [← hF]; exact ⟨rfl, rfl⟩)
  · rw [if_neg hc1] at hF hS
    refine g_iload_n C d_Ce_put_4 rfl ?_
    refine g_ldc C kk_Ce_13 d_Ce_put_5 ?_
    refine g_icmp_lt C 11 d_Ce_put_7 (by decide) (fun hc2 => ?_) (fun hc2 => ?_)
    · rw [if_pos hc2] at hF hS
      refine g_iload_n C d_Ce_put_11 rfl ?_
      refine g_aload_n C d_Ce_put_12 rfl ?_
      obtain ⟨ho3, hS⟩ := hS
      refine c_getq C hE.1 (ci := 2) i_Ce rfl 0 (by decide) (by decide) (by decide) kf_Ce_7 d_Ce_put_13 ho3 ?_
      obtain ⟨ha4, hS⟩ := hS
      refine GW.known1 (a := (cQ M a0 0).getD 0) ha4.1 ?_
      refine c_alen C hE.1 0 rfl d_Ce_put_16 ha4.2 ?_
      refine g_icmp_lt C 44 d_Ce_put_17 (by decide) (fun hc5 => ?_) (fun hc5 => ?_)
      · rw [if_pos hc5] at hF hS
        refine g_aload_n C d_Ce_put_44 rfl ?_
        obtain ⟨ho6, hS⟩ := hS
        refine c_getq C hE.1 (ci := 2) i_Ce rfl 0 (by decide) (by decide) (by decide) kf_Ce_7 d_Ce_put_45 ho6 ?_
        refine g_iload_n C d_Ce_put_48 rfl ?_
        refine g_iload_n C d_Ce_put_49 rfl ?_
        refine GW.more (A' := gA B) (fun _ h => h.elim) ?_
        obtain ⟨ha7, hS⟩ := hS
        refine GW.known3 (a := (cQ M a0 0).getD 0) ha7.1 ?_
        obtain ⟨hi8, hS⟩ := hS
        refine k_iast (M0 := M) (M := M) C hE.1 d_Ce_put_50 ha7.2 hi8 ?_
        replace hle := cLe.aPi (cA := cs 0) (a := (cQ M a0 0).getD 0) (i := x1.toNatClampNeg) (x := x2) hle
        exact c_vret (M := aPi (cs 0) M ((cQ M a0 0).getD 0) x1.toNatClampNeg x2) C hr hlocks hle d_Ce_put_51 (by rw [← hF]; exact ⟨rfl, rfl⟩)
      · rw [if_neg hc5] at hF hS
        refine g_aload_n C d_Ce_put_20 rfl ?_
        refine g_aload_n C d_Ce_put_21 rfl ?_
        obtain ⟨ho9, hS⟩ := hS
        refine c_getq C hE.1 (ci := 2) i_Ce rfl 0 (by decide) (by decide) (by decide) kf_Ce_7 d_Ce_put_22 ho9 ?_
        refine g_iload_n C d_Ce_put_25 rfl ?_
        refine g_iconst (v := 1) C d_Ce_put_26 (by decide) ?_
        refine g_iadd C d_Ce_put_27 ?_
        refine g_iconst (v := 2) C d_Ce_put_28 (by decide) ?_
        refine g_aload_n C d_Ce_put_29 rfl ?_
        obtain ⟨ho10, hS⟩ := hS
        refine c_getq C hE.1 (ci := 2) i_Ce rfl 0 (by decide) (by decide) (by decide) kf_Ce_7 d_Ce_put_30 ho10 ?_
        obtain ⟨ha11, hS⟩ := hS
        refine GW.known1 (a := (cQ M a0 0).getD 0) ha11.1 ?_
        refine c_alen C hE.1 0 rfl d_Ce_put_33 ha11.2 ?_
        refine g_imul C d_Ce_put_34 ?_
        refine c_mmax (M0 := M) (M := M) C ⟨rfl, rfl⟩ hle km_Ce_14 ks_Mt_max ki_Mt kx_mmax d_Ce_put_35 (Nat.le_of_ble_eq_true rfl) (by simp only [List.map_cons, List.map_nil, rf_cat, List.sum_cons, List.sum_nil]; exact Nat.le_of_ble_eq_true rfl) ?_
        rw [mbind_eq] at hF hS
        generalize (if (x1 + 1) < (2 * (nI (aL M ((cQ M a0 0).getD 0)))) then 2 * (nI (aL M ((cQ M a0 0).getD 0))) else x1 + 1 : Int32) = w12 at hF hS ⊢
        refine GW.more (A' := gA B) (fun _ h => h.elim) ?_
        obtain ⟨hs13, hS⟩ := hS
        refine c_call (av := [va_rf (cQ M a0 0), .int w12]) (rest := [.ref a0]) C hE (fun _ h => h) ⟨rfl, rfl⟩ hle (cc_Ar_copyOf l hf D cs B dE lim _ (cQ M a0 0) w12 hs13) (fun _ h => h) kd_Ar_copyOf ki_Ar (Nat.le_of_ble_eq_true rfl) (Nat.le_of_ble_eq_true rfl) d_Ce_put_38 (Nat.le_of_ble_eq_true rfl) (c_fS (n := 2) C km_Ce_20 ks_Ar_copyOf ki_Ar kd_Ar_copyOf ⟨by decide, by decide, by decide⟩ rfl rfl d_Ce_put_38) (fun v1 M1 hv hle => ?_) (fun E1 M1 hv hle => ?_)
        · rw [mbind_eq] at hF hS
          obtain ⟨hx, hM1⟩ := hv
          have hM2 := hM1.symm
          subst hM2
          generalize hq_w14 : F_Ar_copyOf cs M (cQ M a0 0) w12 = w14 at hF hS hx hle ⊢
          cases hx
          refine GW.eqs (st' := [va_rf w14.1, .ref a0]) rfl ?_
          obtain ⟨ho15, hS⟩ := hS
          refine k_put (M0 := M) (M := w14.2) C hE.1 (ci := 2) i_Ce rfl 0 (by decide) (by decide) kf_Ce_7 t_Ce t_Ce_ok n_Ce rfl (nf_q _ (Or.inr ⟨_, rfl⟩) _) d_Ce_put_41 ho15 ?_
          replace hle := cLe.cP (ci := 2) (a := a0) (k := 0) (v := va_rf w14.1) hle
          refine g_aload_n C d_Ce_put_44 rfl ?_
          obtain ⟨ho16, hS⟩ := hS
          refine c_getq C hE.1 (ci := 2) i_Ce rfl 0 (by decide) (by decide) (by decide) kf_Ce_7 d_Ce_put_45 ho16 ?_
          refine g_iload_n C d_Ce_put_48 rfl ?_
          refine g_iload_n C d_Ce_put_49 rfl ?_
          obtain ⟨ha17, hS⟩ := hS
          refine GW.known3 (a := (cQ (cP 2 w14.2 a0 0 (va_rf w14.1)) a0 0).getD 0) ha17.1 ?_
          obtain ⟨hi18, hS⟩ := hS
          refine k_iast (M0 := M) (M := cP 2 w14.2 a0 0 (va_rf w14.1)) C hE.1 d_Ce_put_50 ha17.2 hi18 ?_
          replace hle := cLe.aPi (cA := cs 0) (a := (cQ (cP 2 w14.2 a0 0 (va_rf w14.1)) a0 0).getD 0) (i := x1.toNatClampNeg) (x := x2) hle
          exact c_vret (M := aPi (cs 0) (cP 2 w14.2 a0 0 (va_rf w14.1)) ((cQ (cP 2 w14.2 a0 0 (va_rf w14.1)) a0 0).getD 0) x1.toNatClampNeg x2) C hr hlocks hle d_Ce_put_51 (by rw [← hF]; exact ⟨rfl, rfl⟩)
        · cases hv.1
    · rw [if_neg hc2] at hF hS
      refine GW.more (A' := gA B) (fun _ h => h.elim) ?_
      exact c_vret (M := M) C hr hlocks hle d_Ce_put_10 (by rw [← hF]; exact ⟨rfl, rfl⟩)
def F_Ty_init (cs : Nat → ClassId) (M : gMem) (a0 : Nat) : gMem := mbind (F_Ce_init cs (gnw M (1, .inr (2, [.null])) 1) M.2.1 ) (fun w3 => mbind (F_Ce_init cs (gnw (cP 1 w3 a0 0 (va_rf (some M.2.1))) (1, .inr (2, [.null])) 1) ((cP 1 w3 a0 0 (va_rf (some M.2.1))).2.1) ) (fun w7 => mbind (F_Ce_init cs (gnw (cP 1 w7 a0 1 (va_rf (some ((cP 1 w3 a0 0 (va_rf (some M.2.1))).2.1)))) (1, .inr (2, [.null])) 1) ((cP 1 w7 a0 1 (va_rf (some ((cP 1 w3 a0 0 (va_rf (some M.2.1))).2.1)))).2.1) ) (fun w11 => mbind (F_Ce_init cs (gnw (cP 1 w11 a0 2 (va_rf (some ((cP 1 w7 a0 1 (va_rf (some ((cP 1 w3 a0 0 (va_rf (some M.2.1))).2.1)))).2.1)))) (1, .inr (2, [.null])) 1) ((cP 1 w11 a0 2 (va_rf (some ((cP 1 w7 a0 1 (va_rf (some ((cP 1 w3 a0 0 (va_rf (some M.2.1))).2.1)))).2.1)))).2.1) ) (fun w15 => cP 1 (cP 1 w15 a0 3 (va_rf (some ((cP 1 w11 a0 2 (va_rf (some ((cP 1 w7 a0 1 (va_rf (some ((cP 1 w3 a0 0 (va_rf (some M.2.1))).2.1)))).2.1)))).2.1)))) a0 4 (.int 3)))))
def S_Ty_init (cs : Nat → ClassId) (lim : Nat × Nat) (M : gMem) (a0 : Nat) : Prop := (M.2.1 + 1 ≤ lim.1 ∧ M.2.2 + 1 ≤ lim.2) ∧ ((S_Ce_init cs lim (gnw M (1, .inr (2, [.null])) 1) M.2.1 ) ∧ (mbind (F_Ce_init cs (gnw M (1, .inr (2, [.null])) 1) M.2.1 ) (fun w3 => (cOk 1 w3 a0) ∧ (((cP 1 w3 a0 0 (va_rf (some M.2.1))).2.1 + 1 ≤ lim.1 ∧ (cP 1 w3 a0 0 (va_rf (some M.2.1))).2.2 + 1 ≤ lim.2) ∧ ((S_Ce_init cs lim (gnw (cP 1 w3 a0 0 (va_rf (some M.2.1))) (1, .inr (2, [.null])) 1) ((cP 1 w3 a0 0 (va_rf (some M.2.1))).2.1) ) ∧ (mbind (F_Ce_init cs (gnw (cP 1 w3 a0 0 (va_rf (some M.2.1))) (1, .inr (2, [.null])) 1) ((cP 1 w3 a0 0 (va_rf (some M.2.1))).2.1) ) (fun w7 => (cOk 1 w7 a0) ∧ (((cP 1 w7 a0 1 (va_rf (some ((cP 1 w3 a0 0 (va_rf (some M.2.1))).2.1)))).2.1 + 1 ≤ lim.1 ∧ (cP 1 w7 a0 1 (va_rf (some ((cP 1 w3 a0 0 (va_rf (some M.2.1))).2.1)))).2.2 + 1 ≤ lim.2) ∧ ((S_Ce_init cs lim (gnw (cP 1 w7 a0 1 (va_rf (some ((cP 1 w3 a0 0 (va_rf (some M.2.1))).2.1)))) (1, .inr (2, [.null])) 1) ((cP 1 w7 a0 1 (va_rf (some ((cP 1 w3 a0 0 (va_rf (some M.2.1))).2.1)))).2.1) ) ∧ (mbind (F_Ce_init cs (gnw (cP 1 w7 a0 1 (va_rf (some ((cP 1 w3 a0 0 (va_rf (some M.2.1))).2.1)))) (1, .inr (2, [.null])) 1) ((cP 1 w7 a0 1 (va_rf (some ((cP 1 w3 a0 0 (va_rf (some M.2.1))).2.1)))).2.1) ) (fun w11 => (cOk 1 w11 a0) ∧ (((cP 1 w11 a0 2 (va_rf (some ((cP 1 w7 a0 1 (va_rf (some ((cP 1 w3 a0 0 (va_rf (some M.2.1))).2.1)))).2.1)))).2.1 + 1 ≤ lim.1 ∧ (cP 1 w11 a0 2 (va_rf (some ((cP 1 w7 a0 1 (va_rf (some ((cP 1 w3 a0 0 (va_rf (some M.2.1))).2.1)))).2.1)))).2.2 + 1 ≤ lim.2) ∧ ((S_Ce_init cs lim (gnw (cP 1 w11 a0 2 (va_rf (some ((cP 1 w7 a0 1 (va_rf (some ((cP 1 w3 a0 0 (va_rf (some M.2.1))).2.1)))).2.1)))) (1, .inr (2, [.null])) 1) ((cP 1 w11 a0 2 (va_rf (some ((cP 1 w7 a0 1 (va_rf (some ((cP 1 w3 a0 0 (va_rf (some M.2.1))).2.1)))).2.1)))).2.1) ) ∧ (mbind (F_Ce_init cs (gnw (cP 1 w11 a0 2 (va_rf (some ((cP 1 w7 a0 1 (va_rf (some ((cP 1 w3 a0 0 (va_rf (some M.2.1))).2.1)))).2.1)))) (1, .inr (2, [.null])) 1) ((cP 1 w11 a0 2 (va_rf (some ((cP 1 w7 a0 1 (va_rf (some ((cP 1 w3 a0 0 (va_rf (some M.2.1))).2.1)))).2.1)))).2.1) ) (fun w15 => (cOk 1 w15 a0) ∧ ((cOk 1 (cP 1 w15 a0 3 (va_rf (some ((cP 1 w11 a0 2 (va_rf (some ((cP 1 w7 a0 1 (va_rf (some ((cP 1 w3 a0 0 (va_rf (some M.2.1))).2.1)))).2.1)))).2.1)))) a0) ∧ (True)))))))))))))))))
set_option maxRecDepth 100000 in
set_option maxHeartbeats 4000000 in
theorem cc_Ty_init (l : Launch) (hf : l.flags = pinnedFlags ++ [noTraceFlag]) (D : va_G) (cs : Nat → ClassId) (B : Nat) (dE : Nat × Nat) (lim : Nat × Nat) (M : gMem) (a0 : Nat) (hS : S_Ty_init cs lim M a0) : cMet l y_Ty_init (Cond.code y_Ty_init c_Ty_init 1 none) (2) (40) D cs B dE (gA B) lim [.ref a0] M (fun x M' => x = .inl none ∧ M' = (F_Ty_init cs M a0)) := by
  refine cMet.ofW (by decide) (Nat.le_of_ble_eq_true rfl) (lv0 := [(0, .ref a0)]) rfl ?_
  intro p e s m args below meth c C hE hR0 hle hr hlocks hex hn
  generalize hF : F_Ty_init cs M a0 = Fv
  unfold F_Ty_init at hF
  unfold S_Ty_init at hS
  refine g_aload_n C d_Ty_init_0 rfl ?_
  refine g_objInit C km_Ty_5 kv_Ob_init kd_Ob_init d_Ty_init_1 (Nat.le_of_ble_eq_true rfl) (Nat.le_of_ble_eq_true rfl) ?_
  refine g_aload_n C d_Ty_init_4 rfl ?_
  refine GW.more (A' := gA B) (fun _ h => h.elim) ?_
  obtain ⟨hl1, hS⟩ := hS
  refine c_new (M0 := M) (M := M) (ci := 2) (N := 1) (fs := [.null]) C hE.1 ⟨rfl, rfl⟩ hle i_Ce rfl t_Ce t_Ce_ok kc_Ty_11 kn_Ce ki_Ce (by decide) d_Ty_init_5 hl1 (fun hle => ?_)
  refine g_dup C d_Ty_init_8 rfl ?_
  obtain ⟨hs2, hS⟩ := hS
  refine c_call (av := [.ref M.2.1]) (rest := [.ref M.2.1, .ref a0]) C hE (fun _ h => h) ⟨rfl, rfl⟩ hle (cc_Ce_init l hf D cs B dE lim _ M.2.1  hs2) (fun _ h => h) kd_Ce_init ki_Ce (Nat.le_of_ble_eq_true rfl) (Nat.le_of_ble_eq_true rfl) d_Ty_init_9 (Nat.le_of_ble_eq_true rfl) (c_fI (n := 0) C rfl km_Ty_13 kv_Ce_init kd_Ce_init ⟨by decide, by decide, by decide⟩ rfl rfl d_Ty_init_9) (fun v1 M1 hv hle => ?_) (fun E1 M1 hv hle => ?_)
  · rw [mbind_eq] at hF hS
    obtain ⟨hx, hM1⟩ := hv
    have hM2 := hM1.symm
    subst hM2
    generalize hq_w3 : F_Ce_init cs (gnw M (1, .inr (2, [.null])) 1) M.2.1  = w3 at hF hS hx hle ⊢
    cases hx
    refine GW.eqs (st' := [.ref M.2.1, .ref a0]) rfl ?_
    obtain ⟨ho4, hS⟩ := hS
    refine GW.eqs (st' := [va_rf (some M.2.1), .ref a0]) rfl ?_
    refine k_putF (M0 := M) (M := w3) C hE.1 (ci := 1) i_Ty rfl 0 (by decide) (by decide) kf_Ty_14 t_Ty t_Ty_ok n_Ty rfl hn rfl (nf_q _ (Or.inl ⟨_, rfl⟩) _) d_Ty_init_12 ho4 ?_
    replace hle := cLe.cP (ci := 1) (a := a0) (k := 0) (v := va_rf (some M.2.1)) hle
    refine g_aload_n C d_Ty_init_15 rfl ?_
    obtain ⟨hl5, hS⟩ := hS
    refine c_new (M0 := M) (M := cP 1 w3 a0 0 (va_rf (some M.2.1))) (ci := 2) (N := 1) (fs := [.null]) C hE.1 ⟨rfl, rfl⟩ hle i_Ce rfl t_Ce t_Ce_ok kc_Ty_11 kn_Ce ki_Ce (by decide) d_Ty_init_16 hl5 (fun hle => ?_)
    refine g_dup C d_Ty_init_19 rfl ?_
    obtain ⟨hs6, hS⟩ := hS
    refine c_call (av := [.ref ((cP 1 w3 a0 0 (va_rf (some M.2.1))).2.1)]) (rest := [.ref ((cP 1 w3 a0 0 (va_rf (some M.2.1))).2.1), .ref a0]) C hE (fun _ h => h) ⟨rfl, rfl⟩ hle (cc_Ce_init l hf D cs B dE lim _ ((cP 1 w3 a0 0 (va_rf (some M.2.1))).2.1)  hs6) (fun _ h => h) kd_Ce_init ki_Ce (Nat.le_of_ble_eq_true rfl) (Nat.le_of_ble_eq_true rfl) d_Ty_init_20 (Nat.le_of_ble_eq_true rfl) (c_fI (n := 0) C rfl km_Ty_13 kv_Ce_init kd_Ce_init ⟨by decide, by decide, by decide⟩ rfl rfl d_Ty_init_20) (fun v1 M1 hv hle => ?_) (fun E1 M1 hv hle => ?_)
    · rw [mbind_eq] at hF hS
      obtain ⟨hx, hM1⟩ := hv
      have hM2 := hM1.symm
      subst hM2
      generalize hq_w7 : F_Ce_init cs (gnw (cP 1 w3 a0 0 (va_rf (some M.2.1))) (1, .inr (2, [.null])) 1) ((cP 1 w3 a0 0 (va_rf (some M.2.1))).2.1)  = w7 at hF hS hx hle ⊢
      cases hx
      refine GW.eqs (st' := [.ref ((cP 1 w3 a0 0 (va_rf (some M.2.1))).2.1), .ref a0]) rfl ?_
      obtain ⟨ho8, hS⟩ := hS
      refine GW.eqs (st' := [va_rf (some ((cP 1 w3 a0 0 (va_rf (some M.2.1))).2.1)), .ref a0]) rfl ?_
      refine k_putF (M0 := M) (M := w7) C hE.1 (ci := 1) i_Ty rfl 1 (by decide) (by decide) kf_Ty_18 t_Ty t_Ty_ok n_Ty rfl hn rfl (nf_q _ (Or.inl ⟨_, rfl⟩) _) d_Ty_init_23 ho8 ?_
      replace hle := cLe.cP (ci := 1) (a := a0) (k := 1) (v := va_rf (some ((cP 1 w3 a0 0 (va_rf (some M.2.1))).2.1))) hle
      refine g_aload_n C d_Ty_init_26 rfl ?_
      obtain ⟨hl9, hS⟩ := hS
      refine c_new (M0 := M) (M := cP 1 w7 a0 1 (va_rf (some ((cP 1 w3 a0 0 (va_rf (some M.2.1))).2.1)))) (ci := 2) (N := 1) (fs := [.null]) C hE.1 ⟨rfl, rfl⟩ hle i_Ce rfl t_Ce t_Ce_ok kc_Ty_11 kn_Ce ki_Ce (by decide) d_Ty_init_27 hl9 (fun hle => ?_)
      refine g_dup C d_Ty_init_30 rfl ?_
      obtain ⟨hs10, hS⟩ := hS
      refine c_call (av := [.ref ((cP 1 w7 a0 1 (va_rf (some ((cP 1 w3 a0 0 (va_rf (some M.2.1))).2.1)))).2.1)]) (rest := [.ref ((cP 1 w7 a0 1 (va_rf (some ((cP 1 w3 a0 0 (va_rf (some M.2.1))).2.1)))).2.1), .ref a0]) C hE (fun _ h => h) ⟨rfl, rfl⟩ hle (cc_Ce_init l hf D cs B dE lim _ ((cP 1 w7 a0 1 (va_rf (some ((cP 1 w3 a0 0 (va_rf (some M.2.1))).2.1)))).2.1)  hs10) (fun _ h => h) kd_Ce_init ki_Ce (Nat.le_of_ble_eq_true rfl) (Nat.le_of_ble_eq_true rfl) d_Ty_init_31 (Nat.le_of_ble_eq_true rfl) (c_fI (n := 0) C rfl km_Ty_13 kv_Ce_init kd_Ce_init ⟨by decide, by decide, by decide⟩ rfl rfl d_Ty_init_31) (fun v1 M1 hv hle => ?_) (fun E1 M1 hv hle => ?_)
      · rw [mbind_eq] at hF hS
        obtain ⟨hx, hM1⟩ := hv
        have hM2 := hM1.symm
        subst hM2
        generalize hq_w11 : F_Ce_init cs (gnw (cP 1 w7 a0 1 (va_rf (some ((cP 1 w3 a0 0 (va_rf (some M.2.1))).2.1)))) (1, .inr (2, [.null])) 1) ((cP 1 w7 a0 1 (va_rf (some ((cP 1 w3 a0 0 (va_rf (some M.2.1))).2.1)))).2.1)  = w11 at hF hS hx hle ⊢
        cases hx
        refine GW.eqs (st' := [.ref ((cP 1 w7 a0 1 (va_rf (some ((cP 1 w3 a0 0 (va_rf (some M.2.1))).2.1)))).2.1), .ref a0]) rfl ?_
        obtain ⟨ho12, hS⟩ := hS
        refine GW.eqs (st' := [va_rf (some ((cP 1 w7 a0 1 (va_rf (some ((cP 1 w3 a0 0 (va_rf (some M.2.1))).2.1)))).2.1)), .ref a0]) rfl ?_
        refine k_putF (M0 := M) (M := w11) C hE.1 (ci := 1) i_Ty rfl 2 (by decide) (by decide) kf_Ty_21 t_Ty t_Ty_ok n_Ty rfl hn rfl (nf_q _ (Or.inl ⟨_, rfl⟩) _) d_Ty_init_34 ho12 ?_
        replace hle := cLe.cP (ci := 1) (a := a0) (k := 2) (v := va_rf (some ((cP 1 w7 a0 1 (va_rf (some ((cP 1 w3 a0 0 (va_rf (some M.2.1))).2.1)))).2.1))) hle
        refine g_aload_n C d_Ty_init_37 rfl ?_
        obtain ⟨hl13, hS⟩ := hS
        refine c_new (M0 := M) (M := cP 1 w11 a0 2 (va_rf (some ((cP 1 w7 a0 1 (va_rf (some ((cP 1 w3 a0 0 (va_rf (some M.2.1))).2.1)))).2.1)))) (ci := 2) (N := 1) (fs := [.null]) C hE.1 ⟨rfl, rfl⟩ hle i_Ce rfl t_Ce t_Ce_ok kc_Ty_11 kn_Ce ki_Ce (by decide) d_Ty_init_38 hl13 (fun hle => ?_)
        refine g_dup C d_Ty_init_41 rfl ?_
        obtain ⟨hs14, hS⟩ := hS
        refine c_call (av := [.ref ((cP 1 w11 a0 2 (va_rf (some ((cP 1 w7 a0 1 (va_rf (some ((cP 1 w3 a0 0 (va_rf (some M.2.1))).2.1)))).2.1)))).2.1)]) (rest := [.ref ((cP 1 w11 a0 2 (va_rf (some ((cP 1 w7 a0 1 (va_rf (some ((cP 1 w3 a0 0 (va_rf (some M.2.1))).2.1)))).2.1)))).2.1), .ref a0]) C hE (fun _ h => h) ⟨rfl, rfl⟩ hle (cc_Ce_init l hf D cs B dE lim _ ((cP 1 w11 a0 2 (va_rf (some ((cP 1 w7 a0 1 (va_rf (some ((cP 1 w3 a0 0 (va_rf (some M.2.1))).2.1)))).2.1)))).2.1)  hs14) (fun _ h => h) kd_Ce_init ki_Ce (Nat.le_of_ble_eq_true rfl) (Nat.le_of_ble_eq_true rfl) d_Ty_init_42 (Nat.le_of_ble_eq_true rfl) (c_fI (n := 0) C rfl km_Ty_13 kv_Ce_init kd_Ce_init ⟨by decide, by decide, by decide⟩ rfl rfl d_Ty_init_42) (fun v1 M1 hv hle => ?_) (fun E1 M1 hv hle => ?_)
        · rw [mbind_eq] at hF hS
          obtain ⟨hx, hM1⟩ := hv
          have hM2 := hM1.symm
          subst hM2
          generalize hq_w15 : F_Ce_init cs (gnw (cP 1 w11 a0 2 (va_rf (some ((cP 1 w7 a0 1 (va_rf (some ((cP 1 w3 a0 0 (va_rf (some M.2.1))).2.1)))).2.1)))) (1, .inr (2, [.null])) 1) ((cP 1 w11 a0 2 (va_rf (some ((cP 1 w7 a0 1 (va_rf (some ((cP 1 w3 a0 0 (va_rf (some M.2.1))).2.1)))).2.1)))).2.1)  = w15 at hF hS hx hle ⊢
          cases hx
          refine GW.eqs (st' := [.ref ((cP 1 w11 a0 2 (va_rf (some ((cP 1 w7 a0 1 (va_rf (some ((cP 1 w3 a0 0 (va_rf (some M.2.1))).2.1)))).2.1)))).2.1), .ref a0]) rfl ?_
          obtain ⟨ho16, hS⟩ := hS
          refine GW.eqs (st' := [va_rf (some ((cP 1 w11 a0 2 (va_rf (some ((cP 1 w7 a0 1 (va_rf (some ((cP 1 w3 a0 0 (va_rf (some M.2.1))).2.1)))).2.1)))).2.1)), .ref a0]) rfl ?_
          refine k_putF (M0 := M) (M := w15) C hE.1 (ci := 1) i_Ty rfl 3 (by decide) (by decide) kf_Ty_24 t_Ty t_Ty_ok n_Ty rfl hn rfl (nf_q _ (Or.inl ⟨_, rfl⟩) _) d_Ty_init_45 ho16 ?_
          replace hle := cLe.cP (ci := 1) (a := a0) (k := 3) (v := va_rf (some ((cP 1 w11 a0 2 (va_rf (some ((cP 1 w7 a0 1 (va_rf (some ((cP 1 w3 a0 0 (va_rf (some M.2.1))).2.1)))).2.1)))).2.1))) hle
          refine g_aload_n C d_Ty_init_48 rfl ?_
          refine g_iconst (v := 3) C d_Ty_init_49 (by decide) ?_
          obtain ⟨ho17, hS⟩ := hS
          refine k_put (M0 := M) (M := cP 1 w15 a0 3 (va_rf (some ((cP 1 w11 a0 2 (va_rf (some ((cP 1 w7 a0 1 (va_rf (some ((cP 1 w3 a0 0 (va_rf (some M.2.1))).2.1)))).2.1)))).2.1)))) C hE.1 (ci := 1) i_Ty rfl 4 (by decide) (by decide) kf_Ty_27 t_Ty t_Ty_ok n_Ty rfl (nf_i _) d_Ty_init_50 ho17 ?_
          replace hle := cLe.cP (ci := 1) (a := a0) (k := 4) (v := .int 3) hle
          exact c_vret (M := cP 1 (cP 1 w15 a0 3 (va_rf (some ((cP 1 w11 a0 2 (va_rf (some ((cP 1 w7 a0 1 (va_rf (some ((cP 1 w3 a0 0 (va_rf (some M.2.1))).2.1)))).2.1)))).2.1)))) a0 4 (.int 3)) C hr hlocks hle d_Ty_init_53 (by rw [← hF]; exact ⟨rfl, rfl⟩)
        · cases hv.1
      · cases hv.1
    · cases hv.1
  · cases hv.1
def F_Ty_isType (cs : Nat → ClassId) (M : gMem) (a0 : Nat) (x1 : Int32) : Int32 := if x1 < 0 then (0) else (if (cI M a0 4) ≤ x1 then (0) else (1))
def S_Ty_isType (cs : Nat → ClassId) (lim : Nat × Nat) (M : gMem) (a0 : Nat) (x1 : Int32) : Prop := if x1 < 0 then (True) else ((cOk 1 M a0) ∧ (if (cI M a0 4) ≤ x1 then (True) else (True)))
set_option maxRecDepth 100000 in
set_option maxHeartbeats 4000000 in
theorem cc_Ty_isType (l : Launch) (hf : l.flags = pinnedFlags ++ [noTraceFlag]) (D : va_G) (cs : Nat → ClassId) (B : Nat) (dE : Nat × Nat) (lim : Nat × Nat) (M : gMem) (a0 : Nat) (x1 : Int32) (hS : S_Ty_isType cs lim M a0 x1) : cMet l y_Ty_isType (Cond.code y_Ty_isType c_Ty_isType 2 (some .boolean)) (0) (0) D cs B dE (fun _ => False) lim [.ref a0, .int x1] M (fun x M' => x = .inl (some (.int (F_Ty_isType cs M a0 x1))) ∧ M' = M) := by
  refine cMet.ofW (by decide) (Nat.le_of_ble_eq_true rfl) (lv0 := [(0, .ref a0), (1, .int x1)]) rfl ?_
  intro p e s m args below meth c C hE hR0 hle hr hlocks hex hn
  generalize hF : F_Ty_isType cs M a0 x1 = Fv
  unfold F_Ty_isType at hF
  unfold S_Ty_isType at hS
  refine g_iload_n C d_Ty_isType_0 rfl ?_
  refine g_if_lt C 16 d_Ty_isType_1 (by decide) (fun hc1 => ?_) (fun hc1 => ?_)
  · rw [if_pos hc1] at hF hS
    refine g_iconst (v := 0) C d_Ty_isType_16 (by decide) ?_
    exact c_zret (M := M) C hr hlocks hle (by decide) d_Ty_isType_17 (by rw [← hF]; exact ⟨rfl, rfl⟩)
  · rw [if_neg hc1] at hF hS
    refine g_iload_n C d_Ty_isType_4 rfl ?_
    refine g_aload_n C d_Ty_isType_5 rfl ?_
    obtain ⟨ho2, hS⟩ := hS
    refine c_geti C hE.1 (ci := 1) i_Ty rfl 4 (by decide) (by decide) (by decide) kf_Ty_27 d_Ty_isType_6 ho2 ?_
    refine g_icmp_ge C 16 d_Ty_isType_9 (by decide) (fun hc3 => ?_) (fun hc3 => ?_)
    · rw [if_pos hc3] at hF hS
      refine g_iconst (v := 0) C d_Ty_isType_16 (by decide) ?_
      exact c_zret (M := M) C hr hlocks hle (by decide) d_Ty_isType_17 (by rw [← hF]; exact ⟨rfl, rfl⟩)
    · rw [if_neg hc3] at hF hS
      refine g_iconst (v := 1) C d_Ty_isType_12 (by decide) ?_
      refine g_goto C 17 d_Ty_isType_13 (by decide) ?_
      exact c_zret (M := M) C hr hlocks hle (by decide) d_Ty_isType_17 (by rw [← hF]; exact ⟨rfl, rfl⟩)
def F_Ty_isFunction (cs : Nat → ClassId) (M : gMem) (a0 : Nat) (x1 : Int32) : Int32 := if x1 < 3 then (0) else (if (cI M a0 4) ≤ x1 then (0) else (1))
def S_Ty_isFunction (cs : Nat → ClassId) (lim : Nat × Nat) (M : gMem) (a0 : Nat) (x1 : Int32) : Prop := if x1 < 3 then (True) else ((cOk 1 M a0) ∧ (if (cI M a0 4) ≤ x1 then (True) else (True)))
set_option maxRecDepth 100000 in
set_option maxHeartbeats 4000000 in
theorem cc_Ty_isFunction (l : Launch) (hf : l.flags = pinnedFlags ++ [noTraceFlag]) (D : va_G) (cs : Nat → ClassId) (B : Nat) (dE : Nat × Nat) (lim : Nat × Nat) (M : gMem) (a0 : Nat) (x1 : Int32) (hS : S_Ty_isFunction cs lim M a0 x1) : cMet l y_Ty_isFunction (Cond.code y_Ty_isFunction c_Ty_isFunction 2 (some .boolean)) (0) (0) D cs B dE (fun _ => False) lim [.ref a0, .int x1] M (fun x M' => x = .inl (some (.int (F_Ty_isFunction cs M a0 x1))) ∧ M' = M) := by
  refine cMet.ofW (by decide) (Nat.le_of_ble_eq_true rfl) (lv0 := [(0, .ref a0), (1, .int x1)]) rfl ?_
  intro p e s m args below meth c C hE hR0 hle hr hlocks hex hn
  generalize hF : F_Ty_isFunction cs M a0 x1 = Fv
  unfold F_Ty_isFunction at hF
  unfold S_Ty_isFunction at hS
  refine g_iload_n C d_Ty_isFunction_0 rfl ?_
  refine g_iconst (v := 3) C d_Ty_isFunction_1 (by decide) ?_
  refine g_icmp_lt C 17 d_Ty_isFunction_2 (by decide) (fun hc1 => ?_) (fun hc1 => ?_)
  · rw [if_pos hc1] at hF hS
    refine g_iconst (v := 0) C d_Ty_isFunction_17 (by decide) ?_
    exact c_zret (M := M) C hr hlocks hle (by decide) d_Ty_isFunction_18 (by rw [← hF]; exact ⟨rfl, rfl⟩)
  · rw [if_neg hc1] at hF hS
    refine g_iload_n C d_Ty_isFunction_5 rfl ?_
    refine g_aload_n C d_Ty_isFunction_6 rfl ?_
    obtain ⟨ho2, hS⟩ := hS
    refine c_geti C hE.1 (ci := 1) i_Ty rfl 4 (by decide) (by decide) (by decide) kf_Ty_27 d_Ty_isFunction_7 ho2 ?_
    refine g_icmp_ge C 17 d_Ty_isFunction_10 (by decide) (fun hc3 => ?_) (fun hc3 => ?_)
    · rw [if_pos hc3] at hF hS
      refine g_iconst (v := 0) C d_Ty_isFunction_17 (by decide) ?_
      exact c_zret (M := M) C hr hlocks hle (by decide) d_Ty_isFunction_18 (by rw [← hF]; exact ⟨rfl, rfl⟩)
    · rw [if_neg hc3] at hF hS
      refine g_iconst (v := 1) C d_Ty_isFunction_13 (by decide) ?_
      refine g_goto C 18 d_Ty_isFunction_14 (by decide) ?_
      exact c_zret (M := M) C hr hlocks hle (by decide) d_Ty_isFunction_18 (by rw [← hF]; exact ⟨rfl, rfl⟩)
def F_Ty_functions (cs : Nat → ClassId) (M : gMem) (a0 : Nat) : Int32 := (cI M a0 4) - 3
def S_Ty_functions (cs : Nat → ClassId) (lim : Nat × Nat) (M : gMem) (a0 : Nat) : Prop := (cOk 1 M a0) ∧ (True)
set_option maxRecDepth 100000 in
set_option maxHeartbeats 4000000 in
theorem cc_Ty_functions (l : Launch) (hf : l.flags = pinnedFlags ++ [noTraceFlag]) (D : va_G) (cs : Nat → ClassId) (B : Nat) (dE : Nat × Nat) (lim : Nat × Nat) (M : gMem) (a0 : Nat) (hS : S_Ty_functions cs lim M a0) : cMet l y_Ty_functions (Cond.code y_Ty_functions c_Ty_functions 1 (some .int)) (0) (0) D cs B dE (fun _ => False) lim [.ref a0] M (fun x M' => x = .inl (some (.int (F_Ty_functions cs M a0))) ∧ M' = M) := by
  refine cMet.ofW (by decide) (Nat.le_of_ble_eq_true rfl) (lv0 := [(0, .ref a0)]) rfl ?_
  intro p e s m args below meth c C hE hR0 hle hr hlocks hex hn
  generalize hF : F_Ty_functions cs M a0 = Fv
  unfold F_Ty_functions at hF
  unfold S_Ty_functions at hS
  refine g_aload_n C d_Ty_functions_0 rfl ?_
  obtain ⟨ho1, hS⟩ := hS
  refine c_geti C hE.1 (ci := 1) i_Ty rfl 4 (by decide) (by decide) (by decide) kf_Ty_27 d_Ty_functions_1 ho1 ?_
  refine g_iconst (v := 3) C d_Ty_functions_4 (by decide) ?_
  refine g_isub C d_Ty_functions_5 ?_
  exact c_iret (M := M) C hr hlocks hle d_Ty_functions_6 (by rw [← hF]; exact ⟨rfl, rfl⟩)
def F_Ty_argumentOf (cs : Nat → ClassId) (M : gMem) (a0 : Nat) (x1 : Int32) : Int32 := mbind (F_Ce_at cs M ((cQ M a0 0).getD 0) x1) (fun w4 => w4)
def S_Ty_argumentOf (cs : Nat → ClassId) (lim : Nat × Nat) (M : gMem) (a0 : Nat) (x1 : Int32) : Prop := (cOk 1 M a0) ∧ ((cOq 2 M (cQ M a0 0)) ∧ ((S_Ce_at cs lim M ((cQ M a0 0).getD 0) x1) ∧ (mbind (F_Ce_at cs M ((cQ M a0 0).getD 0) x1) (fun w4 => True))))
set_option maxRecDepth 100000 in
set_option maxHeartbeats 4000000 in
theorem cc_Ty_argumentOf (l : Launch) (hf : l.flags = pinnedFlags ++ [noTraceFlag]) (D : va_G) (cs : Nat → ClassId) (B : Nat) (dE : Nat × Nat) (lim : Nat × Nat) (M : gMem) (a0 : Nat) (x1 : Int32) (hS : S_Ty_argumentOf cs lim M a0 x1) : cMet l y_Ty_argumentOf (Cond.code y_Ty_argumentOf c_Ty_argumentOf 2 (some .int)) (1) (21) D cs B dE (fun _ => False) lim [.ref a0, .int x1] M (fun x M' => x = .inl (some (.int (F_Ty_argumentOf cs M a0 x1))) ∧ M' = M) := by
  refine cMet.ofW (by decide) (Nat.le_of_ble_eq_true rfl) (lv0 := [(0, .ref a0), (1, .int x1)]) rfl ?_
  intro p e s m args below meth c C hE hR0 hle hr hlocks hex hn
  generalize hF : F_Ty_argumentOf cs M a0 x1 = Fv
  unfold F_Ty_argumentOf at hF
  unfold S_Ty_argumentOf at hS
  refine g_aload_n C d_Ty_argumentOf_0 rfl ?_
  obtain ⟨ho1, hS⟩ := hS
  refine c_getq C hE.1 (ci := 1) i_Ty rfl 0 (by decide) (by decide) (by decide) kf_Ty_14 d_Ty_argumentOf_1 ho1 ?_
  refine g_iload_n C d_Ty_argumentOf_4 rfl ?_
  obtain ⟨ho2, hS⟩ := hS
  refine GW.known2 (a := (cQ M a0 0).getD 0) (cOq.at ho2).1 ?_
  obtain ⟨hs3, hS⟩ := hS
  refine c_call (av := [.ref ((cQ M a0 0).getD 0), .int x1]) (rest := []) C hE (fun _ h => h.elim) ⟨rfl, rfl⟩ hle (cc_Ce_at l hf D cs B dE lim _ ((cQ M a0 0).getD 0) x1 hs3) (fun _ h => h.elim) kd_Ce_at ki_Ce (Nat.le_of_ble_eq_true rfl) (Nat.le_of_ble_eq_true rfl) d_Ty_argumentOf_5 (Nat.le_of_ble_eq_true rfl) (c_fV (n := 1) (ci := 2) C hE.1 rfl km_Ty_31 kv_Ce_at kl_Ce_at kd_Ce_at ⟨by decide, by decide, by decide⟩ rfl rfl d_Ty_argumentOf_5 (cOq.at ho2).2) (fun v1 M1 hv hle => ?_) (fun E1 M1 hv hle => ?_)
  · rw [mbind_eq] at hF hS
    obtain ⟨hx, hM1⟩ := hv
    have hM2 := hM1.symm
    subst hM2
    generalize hq_w4 : F_Ce_at cs M ((cQ M a0 0).getD 0) x1 = w4 at hF hS hx hle ⊢
    cases hx
    refine GW.eqs (st' := [.int w4]) rfl ?_
    exact c_iret (M := M) C hr hlocks hle d_Ty_argumentOf_8 (by rw [← hF]; exact ⟨rfl, rfl⟩)
  · cases hv.1
def F_Ty_resultOf (cs : Nat → ClassId) (M : gMem) (a0 : Nat) (x1 : Int32) : Int32 := mbind (F_Ce_at cs M ((cQ M a0 1).getD 0) x1) (fun w4 => w4)
def S_Ty_resultOf (cs : Nat → ClassId) (lim : Nat × Nat) (M : gMem) (a0 : Nat) (x1 : Int32) : Prop := (cOk 1 M a0) ∧ ((cOq 2 M (cQ M a0 1)) ∧ ((S_Ce_at cs lim M ((cQ M a0 1).getD 0) x1) ∧ (mbind (F_Ce_at cs M ((cQ M a0 1).getD 0) x1) (fun w4 => True))))
set_option maxRecDepth 100000 in
set_option maxHeartbeats 4000000 in
theorem cc_Ty_resultOf (l : Launch) (hf : l.flags = pinnedFlags ++ [noTraceFlag]) (D : va_G) (cs : Nat → ClassId) (B : Nat) (dE : Nat × Nat) (lim : Nat × Nat) (M : gMem) (a0 : Nat) (x1 : Int32) (hS : S_Ty_resultOf cs lim M a0 x1) : cMet l y_Ty_resultOf (Cond.code y_Ty_resultOf c_Ty_resultOf 2 (some .int)) (1) (21) D cs B dE (fun _ => False) lim [.ref a0, .int x1] M (fun x M' => x = .inl (some (.int (F_Ty_resultOf cs M a0 x1))) ∧ M' = M) := by
  refine cMet.ofW (by decide) (Nat.le_of_ble_eq_true rfl) (lv0 := [(0, .ref a0), (1, .int x1)]) rfl ?_
  intro p e s m args below meth c C hE hR0 hle hr hlocks hex hn
  generalize hF : F_Ty_resultOf cs M a0 x1 = Fv
  unfold F_Ty_resultOf at hF
  unfold S_Ty_resultOf at hS
  refine g_aload_n C d_Ty_resultOf_0 rfl ?_
  obtain ⟨ho1, hS⟩ := hS
  refine c_getq C hE.1 (ci := 1) i_Ty rfl 1 (by decide) (by decide) (by decide) kf_Ty_18 d_Ty_resultOf_1 ho1 ?_
  refine g_iload_n C d_Ty_resultOf_4 rfl ?_
  obtain ⟨ho2, hS⟩ := hS
  refine GW.known2 (a := (cQ M a0 1).getD 0) (cOq.at ho2).1 ?_
  obtain ⟨hs3, hS⟩ := hS
  refine c_call (av := [.ref ((cQ M a0 1).getD 0), .int x1]) (rest := []) C hE (fun _ h => h.elim) ⟨rfl, rfl⟩ hle (cc_Ce_at l hf D cs B dE lim _ ((cQ M a0 1).getD 0) x1 hs3) (fun _ h => h.elim) kd_Ce_at ki_Ce (Nat.le_of_ble_eq_true rfl) (Nat.le_of_ble_eq_true rfl) d_Ty_resultOf_5 (Nat.le_of_ble_eq_true rfl) (c_fV (n := 1) (ci := 2) C hE.1 rfl km_Ty_31 kv_Ce_at kl_Ce_at kd_Ce_at ⟨by decide, by decide, by decide⟩ rfl rfl d_Ty_resultOf_5 (cOq.at ho2).2) (fun v1 M1 hv hle => ?_) (fun E1 M1 hv hle => ?_)
  · rw [mbind_eq] at hF hS
    obtain ⟨hx, hM1⟩ := hv
    have hM2 := hM1.symm
    subst hM2
    generalize hq_w4 : F_Ce_at cs M ((cQ M a0 1).getD 0) x1 = w4 at hF hS hx hle ⊢
    cases hx
    refine GW.eqs (st' := [.int w4]) rfl ?_
    exact c_iret (M := M) C hr hlocks hle d_Ty_resultOf_8 (by rw [← hF]; exact ⟨rfl, rfl⟩)
  · cases hv.1
def F_Ty_rowOf (cs : Nat → ClassId) (M : gMem) (a0 : Nat) (x1 : Int32) : Int32 := mbind (F_Ce_at cs M ((cQ M a0 2).getD 0) x1) (fun w4 => w4)
def S_Ty_rowOf (cs : Nat → ClassId) (lim : Nat × Nat) (M : gMem) (a0 : Nat) (x1 : Int32) : Prop := (cOk 1 M a0) ∧ ((cOq 2 M (cQ M a0 2)) ∧ ((S_Ce_at cs lim M ((cQ M a0 2).getD 0) x1) ∧ (mbind (F_Ce_at cs M ((cQ M a0 2).getD 0) x1) (fun w4 => True))))
set_option maxRecDepth 100000 in
set_option maxHeartbeats 4000000 in
theorem cc_Ty_rowOf (l : Launch) (hf : l.flags = pinnedFlags ++ [noTraceFlag]) (D : va_G) (cs : Nat → ClassId) (B : Nat) (dE : Nat × Nat) (lim : Nat × Nat) (M : gMem) (a0 : Nat) (x1 : Int32) (hS : S_Ty_rowOf cs lim M a0 x1) : cMet l y_Ty_rowOf (Cond.code y_Ty_rowOf c_Ty_rowOf 2 (some .int)) (1) (21) D cs B dE (fun _ => False) lim [.ref a0, .int x1] M (fun x M' => x = .inl (some (.int (F_Ty_rowOf cs M a0 x1))) ∧ M' = M) := by
  refine cMet.ofW (by decide) (Nat.le_of_ble_eq_true rfl) (lv0 := [(0, .ref a0), (1, .int x1)]) rfl ?_
  intro p e s m args below meth c C hE hR0 hle hr hlocks hex hn
  generalize hF : F_Ty_rowOf cs M a0 x1 = Fv
  unfold F_Ty_rowOf at hF
  unfold S_Ty_rowOf at hS
  refine g_aload_n C d_Ty_rowOf_0 rfl ?_
  obtain ⟨ho1, hS⟩ := hS
  refine c_getq C hE.1 (ci := 1) i_Ty rfl 2 (by decide) (by decide) (by decide) kf_Ty_21 d_Ty_rowOf_1 ho1 ?_
  refine g_iload_n C d_Ty_rowOf_4 rfl ?_
  obtain ⟨ho2, hS⟩ := hS
  refine GW.known2 (a := (cQ M a0 2).getD 0) (cOq.at ho2).1 ?_
  obtain ⟨hs3, hS⟩ := hS
  refine c_call (av := [.ref ((cQ M a0 2).getD 0), .int x1]) (rest := []) C hE (fun _ h => h.elim) ⟨rfl, rfl⟩ hle (cc_Ce_at l hf D cs B dE lim _ ((cQ M a0 2).getD 0) x1 hs3) (fun _ h => h.elim) kd_Ce_at ki_Ce (Nat.le_of_ble_eq_true rfl) (Nat.le_of_ble_eq_true rfl) d_Ty_rowOf_5 (Nat.le_of_ble_eq_true rfl) (c_fV (n := 1) (ci := 2) C hE.1 rfl km_Ty_31 kv_Ce_at kl_Ce_at kd_Ce_at ⟨by decide, by decide, by decide⟩ rfl rfl d_Ty_rowOf_5 (cOq.at ho2).2) (fun v1 M1 hv hle => ?_) (fun E1 M1 hv hle => ?_)
  · rw [mbind_eq] at hF hS
    obtain ⟨hx, hM1⟩ := hv
    have hM2 := hM1.symm
    subst hM2
    generalize hq_w4 : F_Ce_at cs M ((cQ M a0 2).getD 0) x1 = w4 at hF hS hx hle ⊢
    cases hx
    refine GW.eqs (st' := [.int w4]) rfl ?_
    exact c_iret (M := M) C hr hlocks hle d_Ty_rowOf_8 (by rw [← hF]; exact ⟨rfl, rfl⟩)
  · cases hv.1
def F_Ty_dropBack (cs : Nat → ClassId) (M : gMem) (a0 : Nat) (x1 : Int32) : gMem := cP 1 M a0 4 (.int x1)
def S_Ty_dropBack (cs : Nat → ClassId) (lim : Nat × Nat) (M : gMem) (a0 : Nat) (x1 : Int32) : Prop := (cOk 1 M a0) ∧ (True)
set_option maxRecDepth 100000 in
set_option maxHeartbeats 4000000 in
theorem cc_Ty_dropBack (l : Launch) (hf : l.flags = pinnedFlags ++ [noTraceFlag]) (D : va_G) (cs : Nat → ClassId) (B : Nat) (dE : Nat × Nat) (lim : Nat × Nat) (M : gMem) (a0 : Nat) (x1 : Int32) (hS : S_Ty_dropBack cs lim M a0 x1) : cMet l y_Ty_dropBack (Cond.code y_Ty_dropBack c_Ty_dropBack 2 none) (0) (0) D cs B dE (gA B) lim [.ref a0, .int x1] M (fun x M' => x = .inl none ∧ M' = (F_Ty_dropBack cs M a0 x1)) := by
  refine cMet.ofW (by decide) (Nat.le_of_ble_eq_true rfl) (lv0 := [(0, .ref a0), (1, .int x1)]) rfl ?_
  intro p e s m args below meth c C hE hR0 hle hr hlocks hex hn
  generalize hF : F_Ty_dropBack cs M a0 x1 = Fv
  unfold F_Ty_dropBack at hF
  unfold S_Ty_dropBack at hS
  refine g_aload_n C d_Ty_dropBack_0 rfl ?_
  refine g_iload_n C d_Ty_dropBack_1 rfl ?_
  refine GW.more (A' := gA B) (fun _ h => h.elim) ?_
  obtain ⟨ho1, hS⟩ := hS
  refine k_put (M0 := M) (M := M) C hE.1 (ci := 1) i_Ty rfl 4 (by decide) (by decide) kf_Ty_27 t_Ty t_Ty_ok n_Ty rfl (nf_i _) d_Ty_dropBack_2 ho1 ?_
  replace hle := cLe.cP (ci := 1) (a := a0) (k := 4) (v := .int x1) hle
  exact c_vret (M := cP 1 M a0 4 (.int x1)) C hr hlocks hle d_Ty_dropBack_5 (by rw [← hF]; exact ⟨rfl, rfl⟩)
def F_Ty_find_3 (cs : Nat → ClassId) : Nat → gMem → Nat → Int32 → Int32 → Int32 → Int32 → Int32
  | 0, M, _, _, _, _, _ => 0
  | n + 1, M, a0, x1, x2, x3, x4 => if (cI M a0 4) ≤ x4 then ((-1)) else (mbind (F_Ce_at cs M ((cQ M a0 0).getD 0) x4) (fun w6 => if w6 = x1 then (mbind (F_Ce_at cs M ((cQ M a0 1).getD 0) x4) (fun w11 => if w11 = x2 then (mbind (F_Ce_at cs M ((cQ M a0 2).getD 0) x4) (fun w16 => if w16 = x3 then (x4) else (F_Ty_find_3 cs n M a0 x1 x2 x3 (x4 + 1)))) else (F_Ty_find_3 cs n M a0 x1 x2 x3 (x4 + 1)))) else (F_Ty_find_3 cs n M a0 x1 x2 x3 (x4 + 1))))
def S_Ty_find_3 (cs : Nat → ClassId) (lim : Nat × Nat) : Nat → gMem → Nat → Int32 → Int32 → Int32 → Int32 → Prop
  | 0, _, _, _, _, _, _ => False
  | n + 1, M, a0, x1, x2, x3, x4 => (cOk 1 M a0) ∧ (if (cI M a0 4) ≤ x4 then (True) else ((cOk 1 M a0) ∧ ((cOq 2 M (cQ M a0 0)) ∧ ((S_Ce_at cs lim M ((cQ M a0 0).getD 0) x4) ∧ (mbind (F_Ce_at cs M ((cQ M a0 0).getD 0) x4) (fun w6 => if w6 = x1 then ((cOk 1 M a0) ∧ ((cOq 2 M (cQ M a0 1)) ∧ ((S_Ce_at cs lim M ((cQ M a0 1).getD 0) x4) ∧ (mbind (F_Ce_at cs M ((cQ M a0 1).getD 0) x4) (fun w11 => if w11 = x2 then ((cOk 1 M a0) ∧ ((cOq 2 M (cQ M a0 2)) ∧ ((S_Ce_at cs lim M ((cQ M a0 2).getD 0) x4) ∧ (mbind (F_Ce_at cs M ((cQ M a0 2).getD 0) x4) (fun w16 => if w16 = x3 then (True) else (S_Ty_find_3 cs lim n M a0 x1 x2 x3 (x4 + 1))))))) else (S_Ty_find_3 cs lim n M a0 x1 x2 x3 (x4 + 1))))))) else (S_Ty_find_3 cs lim n M a0 x1 x2 x3 (x4 + 1))))))))
set_option maxRecDepth 100000 in
set_option maxHeartbeats 4000000 in
theorem w_Ty_find_3 {p : Program} {l : Launch} {e : Env} {s : State} {m : MethodId} {args : Array Value} {below : List Frame} {meth : Method} {c : Code} {D : va_G} {cs : Nat → ClassId} {B : Nat} {dE : Nat × Nat} {lim : Nat × Nat} {M0 : gMem} (C : CallFix p m c c_Ty_find 5 s args gT y_Ty_find.cls) (hE : gEnv D gcl (gtys cs) gz B dE s) (hf : l.flags = pinnedFlags ++ [noTraceFlag]) (hr : meth.sig.returnType = (some .int)) (hlocks : meth.locks = false) (hex : c.exceptionTable.isEmpty = true) (hn : meth.name = y_Ty_find.name) : ∀ (n : Nat) (M : gMem) (a0 : Nat) (x1 : Int32) (x2 : Int32) (x3 : Int32) (x4 : Int32) (Fv : Int32) (hle : cLe lim M0 M) (hS : S_Ty_find_3 cs lim n M a0 x1 x2 x3 x4) (hF : F_Ty_find_3 cs n M a0 x1 x2 x3 x4 = Fv), GW p l e ({ frames := 1, cells := lim.1 - M0.2.1, slots := lim.2 - M0.2.2, locals := 21 } : Room) s m args below meth c 5 (fun _ => False) (cQ0 below D B (fun _ => False) lim M0 (fun x M' => x = .inl (some (.int Fv)) ∧ M' = M) args s) (gR D gcl B M) (M.2.1 - M0.2.1) (M.2.2 - M0.2.2) 3 [(0, .ref a0), (1, .int x1), (2, .int x2), (3, .int x3), (4, .int x4)] [] := by
  intro n
  induction n with
  | zero =>
    intro M a0 x1 x2 x3 x4 Fv hle hS hF
    exact hS.elim
  | succ n ih =>
    intro M a0 x1 x2 x3 x4 Fv hle hS hF
    simp only [S_Ty_find_3] at hS
    simp only [F_Ty_find_3] at hF
    refine g_iload C d_Ty_find_3 rfl ?_
    refine g_aload_n C d_Ty_find_5 rfl ?_
    obtain ⟨ho1, hS⟩ := hS
    refine c_geti C hE.1 (ci := 1) i_Ty rfl 4 (by decide) (by decide) (by decide) kf_Ty_27 d_Ty_find_6 ho1 ?_
    refine g_icmp_ge C 60 d_Ty_find_9 (by decide) (fun hc2 => ?_) (fun hc2 => ?_)
    · rw [if_pos hc2] at hF hS
      refine g_iconst (v := (-1)) C d_Ty_find_60 (by decide) ?_
      exact c_iret (M := M) C hr hlocks hle d_Ty_find_61 (by rw [← hF]; exact ⟨rfl, rfl⟩)
    · rw [if_neg hc2] at hF hS
      refine g_aload_n C d_Ty_find_12 rfl ?_
      obtain ⟨ho3, hS⟩ := hS
      refine c_getq C hE.1 (ci := 1) i_Ty rfl 0 (by decide) (by decide) (by decide) kf_Ty_14 d_Ty_find_13 ho3 ?_
      refine g_iload C d_Ty_find_16 rfl ?_
      obtain ⟨ho4, hS⟩ := hS
      refine GW.known2 (a := (cQ M a0 0).getD 0) (cOq.at ho4).1 ?_
      obtain ⟨hs5, hS⟩ := hS
      refine c_call (av := [.ref ((cQ M a0 0).getD 0), .int x4]) (rest := []) C hE (fun _ h => h.elim) ⟨rfl, rfl⟩ hle (cc_Ce_at l hf D cs B dE lim _ ((cQ M a0 0).getD 0) x4 hs5) (fun _ h => h.elim) kd_Ce_at ki_Ce (Nat.le_of_ble_eq_true rfl) (Nat.le_of_ble_eq_true rfl) d_Ty_find_18 (Nat.le_of_ble_eq_true rfl) (c_fV (n := 1) (ci := 2) C hE.1 rfl km_Ty_31 kv_Ce_at kl_Ce_at kd_Ce_at ⟨by decide, by decide, by decide⟩ rfl rfl d_Ty_find_18 (cOq.at ho4).2) (fun v1 M1 hv hle => ?_) (fun E1 M1 hv hle => ?_)
      · rw [mbind_eq] at hF hS
        obtain ⟨hx, hM1⟩ := hv
        have hM2 := hM1.symm
        subst hM2
        generalize hq_w6 : F_Ce_at cs M ((cQ M a0 0).getD 0) x4 = w6 at hF hS hx hle ⊢
        cases hx
        refine GW.eqs (st' := [.int w6]) rfl ?_
        refine g_iload_n C d_Ty_find_21 rfl ?_
        refine g_icmp_ne C 54 d_Ty_find_22 (by decide) (fun hc7 => ?_) (fun hc7 => ?_)
        · rw [if_neg hc7] at hF hS
          refine g_iinc (v := x4 + 1) (lv' := [(4, .int (x4 + 1)), (0, .ref a0), (1, .int x1), (2, .int x2), (3, .int x3)]) C d_Ty_find_54 rfl rfl (by decide) rfl ?_
          refine g_goto C 3 d_Ty_find_57 (by decide) ?_
          refine GW.subl [1, 2, 3, 4, 0] rfl ?_
          exact ih M a0 x1 x2 x3 (x4 + 1) Fv hle hS hF
        · rw [if_pos hc7] at hF hS
          refine g_aload_n C d_Ty_find_25 rfl ?_
          obtain ⟨ho8, hS⟩ := hS
          refine c_getq C hE.1 (ci := 1) i_Ty rfl 1 (by decide) (by decide) (by decide) kf_Ty_18 d_Ty_find_26 ho8 ?_
          refine g_iload C d_Ty_find_29 rfl ?_
          obtain ⟨ho9, hS⟩ := hS
          refine GW.known2 (a := (cQ M a0 1).getD 0) (cOq.at ho9).1 ?_
          obtain ⟨hs10, hS⟩ := hS
          refine c_call (av := [.ref ((cQ M a0 1).getD 0), .int x4]) (rest := []) C hE (fun _ h => h.elim) ⟨rfl, rfl⟩ hle (cc_Ce_at l hf D cs B dE lim _ ((cQ M a0 1).getD 0) x4 hs10) (fun _ h => h.elim) kd_Ce_at ki_Ce (Nat.le_of_ble_eq_true rfl) (Nat.le_of_ble_eq_true rfl) d_Ty_find_31 (Nat.le_of_ble_eq_true rfl) (c_fV (n := 1) (ci := 2) C hE.1 rfl km_Ty_31 kv_Ce_at kl_Ce_at kd_Ce_at ⟨by decide, by decide, by decide⟩ rfl rfl d_Ty_find_31 (cOq.at ho9).2) (fun v1 M1 hv hle => ?_) (fun E1 M1 hv hle => ?_)
          · rw [mbind_eq] at hF hS
            obtain ⟨hx, hM1⟩ := hv
            have hM2 := hM1.symm
            subst hM2
            generalize hq_w11 : F_Ce_at cs M ((cQ M a0 1).getD 0) x4 = w11 at hF hS hx hle ⊢
            cases hx
            refine GW.eqs (st' := [.int w11]) rfl ?_
            refine g_iload_n C d_Ty_find_34 rfl ?_
            refine g_icmp_ne C 54 d_Ty_find_35 (by decide) (fun hc12 => ?_) (fun hc12 => ?_)
            · rw [if_neg hc12] at hF hS
              refine g_iinc (v := x4 + 1) (lv' := [(4, .int (x4 + 1)), (0, .ref a0), (1, .int x1), (2, .int x2), (3, .int x3)]) C d_Ty_find_54 rfl rfl (by decide) rfl ?_
              refine g_goto C 3 d_Ty_find_57 (by decide) ?_
              refine GW.subl [1, 2, 3, 4, 0] rfl ?_
              exact ih M a0 x1 x2 x3 (x4 + 1) Fv hle hS hF
            · rw [if_pos hc12] at hF hS
              refine g_aload_n C d_Ty_find_38 rfl ?_
              obtain ⟨ho13, hS⟩ := hS
              refine c_getq C hE.1 (ci := 1) i_Ty rfl 2 (by decide) (by decide) (by decide) kf_Ty_21 d_Ty_find_39 ho13 ?_
              refine g_iload C d_Ty_find_42 rfl ?_
              obtain ⟨ho14, hS⟩ := hS
              refine GW.known2 (a := (cQ M a0 2).getD 0) (cOq.at ho14).1 ?_
              obtain ⟨hs15, hS⟩ := hS
              refine c_call (av := [.ref ((cQ M a0 2).getD 0), .int x4]) (rest := []) C hE (fun _ h => h.elim) ⟨rfl, rfl⟩ hle (cc_Ce_at l hf D cs B dE lim _ ((cQ M a0 2).getD 0) x4 hs15) (fun _ h => h.elim) kd_Ce_at ki_Ce (Nat.le_of_ble_eq_true rfl) (Nat.le_of_ble_eq_true rfl) d_Ty_find_44 (Nat.le_of_ble_eq_true rfl) (c_fV (n := 1) (ci := 2) C hE.1 rfl km_Ty_31 kv_Ce_at kl_Ce_at kd_Ce_at ⟨by decide, by decide, by decide⟩ rfl rfl d_Ty_find_44 (cOq.at ho14).2) (fun v1 M1 hv hle => ?_) (fun E1 M1 hv hle => ?_)
              · rw [mbind_eq] at hF hS
                obtain ⟨hx, hM1⟩ := hv
                have hM2 := hM1.symm
                subst hM2
                generalize hq_w16 : F_Ce_at cs M ((cQ M a0 2).getD 0) x4 = w16 at hF hS hx hle ⊢
                cases hx
                refine GW.eqs (st' := [.int w16]) rfl ?_
                refine g_iload_n C d_Ty_find_47 rfl ?_
                refine g_icmp_ne C 54 d_Ty_find_48 (by decide) (fun hc17 => ?_) (fun hc17 => ?_)
                · rw [if_neg hc17] at hF hS
                  refine g_iinc (v := x4 + 1) (lv' := [(4, .int (x4 + 1)), (0, .ref a0), (1, .int x1), (2, .int x2), (3, .int x3)]) C d_Ty_find_54 rfl rfl (by decide) rfl ?_
                  refine g_goto C 3 d_Ty_find_57 (by decide) ?_
                  refine GW.subl [1, 2, 3, 4, 0] rfl ?_
                  exact ih M a0 x1 x2 x3 (x4 + 1) Fv hle hS hF
                · rw [if_pos hc17] at hF hS
                  refine g_iload C d_Ty_find_51 rfl ?_
                  exact c_iret (M := M) C hr hlocks hle d_Ty_find_53 (by rw [← hF]; exact ⟨rfl, rfl⟩)
              · cases hv.1
          · cases hv.1
      · cases hv.1
def F_Ty_find (cs : Nat → ClassId) (n : Nat) (M : gMem) (a0 : Nat) (x1 : Int32) (x2 : Int32) (x3 : Int32) : Int32 := F_Ty_find_3 cs n M a0 x1 x2 x3 3
def S_Ty_find (cs : Nat → ClassId) (lim : Nat × Nat) (n : Nat) (M : gMem) (a0 : Nat) (x1 : Int32) (x2 : Int32) (x3 : Int32) : Prop := S_Ty_find_3 cs lim n M a0 x1 x2 x3 3
set_option maxRecDepth 100000 in
set_option maxHeartbeats 4000000 in
theorem cc_Ty_find (l : Launch) (hf : l.flags = pinnedFlags ++ [noTraceFlag]) (D : va_G) (cs : Nat → ClassId) (B : Nat) (dE : Nat × Nat) (lim : Nat × Nat) (n : Nat) (M : gMem) (a0 : Nat) (x1 : Int32) (x2 : Int32) (x3 : Int32) (hS : S_Ty_find cs lim n M a0 x1 x2 x3) : cMet l y_Ty_find (Cond.code y_Ty_find c_Ty_find 5 (some .int)) (1) (21) D cs B dE (fun _ => False) lim [.ref a0, .int x1, .int x2, .int x3] M (fun x M' => x = .inl (some (.int (F_Ty_find cs n M a0 x1 x2 x3))) ∧ M' = M) := by
  refine cMet.ofW (by decide) (Nat.le_of_ble_eq_true rfl) (lv0 := [(0, .ref a0), (1, .int x1), (2, .int x2), (3, .int x3)]) rfl ?_
  intro p e s m args below meth c C hE hR0 hle hr hlocks hex hn
  generalize hF : F_Ty_find cs n M a0 x1 x2 x3 = Fv
  unfold F_Ty_find at hF
  unfold S_Ty_find at hS
  refine g_iconst (v := 3) C d_Ty_find_0 (by decide) ?_
  refine g_istore (lv' := [(4, .int 3), (0, .ref a0), (1, .int x1), (2, .int x2), (3, .int x3)]) C d_Ty_find_1 (by decide) rfl ?_
  refine GW.subl [1, 2, 3, 4, 0] rfl ?_
  exact w_Ty_find_3 C hE hf hr hlocks hex hn n M a0 x1 x2 x3 3 Fv hle hS hF
def F_Ty_suits (cs : Nat → ClassId) (M : gMem) (a0 : Nat) (x1 : Int32) (x2 : Int32) : Int32 := if x1 = x2 then (1) else (if x1 < 3 then (0) else (if 3 ≤ x2 then (mbind (F_Ce_at cs M ((cQ M a0 3).getD 0) ((x1 * 16) + (x2 / 32))) (fun w7 => if (((w7.toUInt32 >>> ((x2 - x2 / 32 * 32).toUInt32 &&& Int32.toUInt32 31)).toInt32) &&& 1) = 1 then (1) else (0))) else (0)))
def S_Ty_suits (cs : Nat → ClassId) (lim : Nat × Nat) (M : gMem) (a0 : Nat) (x1 : Int32) (x2 : Int32) : Prop := if x1 = x2 then (True) else (if x1 < 3 then (True) else (if 3 ≤ x2 then ((cOk 1 M a0) ∧ ((cOq 2 M (cQ M a0 3)) ∧ ((S_Ce_at cs lim M ((cQ M a0 3).getD 0) ((x1 * 16) + (x2 / 32))) ∧ (mbind (F_Ce_at cs M ((cQ M a0 3).getD 0) ((x1 * 16) + (x2 / 32))) (fun w7 => if (((w7.toUInt32 >>> ((x2 - x2 / 32 * 32).toUInt32 &&& Int32.toUInt32 31)).toInt32) &&& 1) = 1 then (True) else (True)))))) else (True)))
set_option maxRecDepth 100000 in
set_option maxHeartbeats 4000000 in
theorem cc_Ty_suits (l : Launch) (hf : l.flags = pinnedFlags ++ [noTraceFlag]) (D : va_G) (cs : Nat → ClassId) (B : Nat) (dE : Nat × Nat) (lim : Nat × Nat) (M : gMem) (a0 : Nat) (x1 : Int32) (x2 : Int32) (hS : S_Ty_suits cs lim M a0 x1 x2) : cMet l y_Ty_suits (Cond.code y_Ty_suits c_Ty_suits 3 (some .boolean)) (1) (21) D cs B dE (fun _ => False) lim [.ref a0, .int x1, .int x2] M (fun x M' => x = .inl (some (.int (F_Ty_suits cs M a0 x1 x2))) ∧ M' = M) := by
  refine cMet.ofW (by decide) (Nat.le_of_ble_eq_true rfl) (lv0 := [(0, .ref a0), (1, .int x1), (2, .int x2)]) rfl ?_
  intro p e s m args below meth c C hE hR0 hle hr hlocks hex hn
  generalize hF : F_Ty_suits cs M a0 x1 x2 = Fv
  unfold F_Ty_suits at hF
  unfold S_Ty_suits at hS
  refine g_iload_n C d_Ty_suits_0 rfl ?_
  refine g_iload_n C d_Ty_suits_1 rfl ?_
  refine g_icmp_ne C 7 d_Ty_suits_2 (by decide) (fun hc1 => ?_) (fun hc1 => ?_)
  · rw [if_neg hc1] at hF hS
    refine g_iload_n C d_Ty_suits_7 rfl ?_
    refine g_iconst (v := 3) C d_Ty_suits_8 (by decide) ?_
    refine g_icmp_lt C 17 d_Ty_suits_9 (by decide) (fun hc2 => ?_) (fun hc2 => ?_)
    · rw [if_pos hc2] at hF hS
      refine g_iconst (v := 0) C d_Ty_suits_17 (by decide) ?_
      exact c_zret (M := M) C hr hlocks hle (by decide) d_Ty_suits_18 (by rw [← hF]; exact ⟨rfl, rfl⟩)
    · rw [if_neg hc2] at hF hS
      refine g_iload_n C d_Ty_suits_12 rfl ?_
      refine g_iconst (v := 3) C d_Ty_suits_13 (by decide) ?_
      refine g_icmp_ge C 19 d_Ty_suits_14 (by decide) (fun hc3 => ?_) (fun hc3 => ?_)
      · rw [if_pos hc3] at hF hS
        refine g_aload_n C d_Ty_suits_19 rfl ?_
        obtain ⟨ho4, hS⟩ := hS
        refine c_getq C hE.1 (ci := 1) i_Ty rfl 3 (by decide) (by decide) (by decide) kf_Ty_24 d_Ty_suits_20 ho4 ?_
        refine g_iload_n C d_Ty_suits_23 rfl ?_
        refine g_bipush (v := 16) C d_Ty_suits_24 (by decide) ?_
        refine g_imul C d_Ty_suits_26 ?_
        refine g_iload_n C d_Ty_suits_27 rfl ?_
        refine g_bipush (v := 32) C d_Ty_suits_28 (by decide) ?_
        refine g_idiv C d_Ty_suits_30 (by decide) ?_
        refine g_iadd C d_Ty_suits_31 ?_
        obtain ⟨ho5, hS⟩ := hS
        refine GW.known2 (a := (cQ M a0 3).getD 0) (cOq.at ho5).1 ?_
        obtain ⟨hs6, hS⟩ := hS
        refine c_call (av := [.ref ((cQ M a0 3).getD 0), .int ((x1 * 16) + (x2 / 32))]) (rest := []) C hE (fun _ h => h.elim) ⟨rfl, rfl⟩ hle (cc_Ce_at l hf D cs B dE lim _ ((cQ M a0 3).getD 0) ((x1 * 16) + (x2 / 32)) hs6) (fun _ h => h.elim) kd_Ce_at ki_Ce (Nat.le_of_ble_eq_true rfl) (Nat.le_of_ble_eq_true rfl) d_Ty_suits_32 (Nat.le_of_ble_eq_true rfl) (c_fV (n := 1) (ci := 2) C hE.1 rfl km_Ty_31 kv_Ce_at kl_Ce_at kd_Ce_at ⟨by decide, by decide, by decide⟩ rfl rfl d_Ty_suits_32 (cOq.at ho5).2) (fun v1 M1 hv hle => ?_) (fun E1 M1 hv hle => ?_)
        · rw [mbind_eq] at hF hS
          obtain ⟨hx, hM1⟩ := hv
          have hM2 := hM1.symm
          subst hM2
          generalize hq_w7 : F_Ce_at cs M ((cQ M a0 3).getD 0) ((x1 * 16) + (x2 / 32)) = w7 at hF hS hx hle ⊢
          cases hx
          refine GW.eqs (st' := [.int w7]) rfl ?_
          refine g_iload_n C d_Ty_suits_35 rfl ?_
          refine g_bipush (v := 32) C d_Ty_suits_36 (by decide) ?_
          refine g_irem C d_Ty_suits_38 (by decide) ?_
          refine g_iushr C d_Ty_suits_39 rfl ?_
          refine g_iconst (v := 1) C d_Ty_suits_40 (by decide) ?_
          refine g_iand C d_Ty_suits_41 ?_
          refine g_iconst (v := 1) C d_Ty_suits_42 (by decide) ?_
          refine g_icmp_ne C 50 d_Ty_suits_43 (by decide) (fun hc8 => ?_) (fun hc8 => ?_)
          · rw [if_neg hc8] at hF hS
            refine g_iconst (v := 0) C d_Ty_suits_50 (by decide) ?_
            exact c_zret (M := M) C hr hlocks hle (by decide) d_Ty_suits_51 (by rw [← hF]; exact ⟨rfl, rfl⟩)
          · rw [if_pos hc8] at hF hS
            refine g_iconst (v := 1) C d_Ty_suits_46 (by decide) ?_
            refine g_goto C 51 d_Ty_suits_47 (by decide) ?_
            exact c_zret (M := M) C hr hlocks hle (by decide) d_Ty_suits_51 (by rw [← hF]; exact ⟨rfl, rfl⟩)
        · cases hv.1
      · rw [if_neg hc3] at hF hS
        refine g_iconst (v := 0) C d_Ty_suits_17 (by decide) ?_
        exact c_zret (M := M) C hr hlocks hle (by decide) d_Ty_suits_18 (by rw [← hF]; exact ⟨rfl, rfl⟩)
  · rw [if_pos hc1] at hF hS
    refine g_iconst (v := 1) C d_Ty_suits_5 (by decide) ?_
    exact c_zret (M := M) C hr hlocks hle (by decide) d_Ty_suits_6 (by rw [← hF]; exact ⟨rfl, rfl⟩)
def F_N_isWithin (cs : Nat → ClassId) (M : gMem) (x0 : Int32) (x1 : Int32) : Int32 := if (x0 &&& (x1 ^^^ (-1))) = 0 then (1) else (0)
def S_N_isWithin (cs : Nat → ClassId) (lim : Nat × Nat) (M : gMem) (x0 : Int32) (x1 : Int32) : Prop := if (x0 &&& (x1 ^^^ (-1))) = 0 then (True) else (True)
set_option maxRecDepth 100000 in
set_option maxHeartbeats 4000000 in
theorem cc_N_isWithin (l : Launch) (hf : l.flags = pinnedFlags ++ [noTraceFlag]) (D : va_G) (cs : Nat → ClassId) (B : Nat) (dE : Nat × Nat) (lim : Nat × Nat) (M : gMem) (x0 : Int32) (x1 : Int32) (hS : S_N_isWithin cs lim M x0 x1) : cMet l y_N_isWithin (Cond.code y_N_isWithin c_N_isWithin 2 (some .boolean)) (0) (0) D cs B dE (fun _ => False) lim [.int x0, .int x1] M (fun x M' => x = .inl (some (.int (F_N_isWithin cs M x0 x1))) ∧ M' = M) := by
  refine cMet.ofW (by decide) (Nat.le_of_ble_eq_true rfl) (lv0 := [(0, .int x0), (1, .int x1)]) rfl ?_
  intro p e s m args below meth c C hE hR0 hle hr hlocks hex hn
  generalize hF : F_N_isWithin cs M x0 x1 = Fv
  unfold F_N_isWithin at hF
  unfold S_N_isWithin at hS
  refine g_iload_n C d_N_isWithin_0 rfl ?_
  refine g_iload_n C d_N_isWithin_1 rfl ?_
  refine g_iconst (v := (-1)) C d_N_isWithin_2 (by decide) ?_
  refine g_ixor C d_N_isWithin_3 ?_
  refine g_iand C d_N_isWithin_4 ?_
  refine g_if_ne C 12 d_N_isWithin_5 (by decide) (fun hc1 => ?_) (fun hc1 => ?_)
  · rw [if_neg hc1] at hF hS
    refine g_iconst (v := 0) C d_N_isWithin_12 (by decide) ?_
    exact c_zret (M := M) C hr hlocks hle (by decide) d_N_isWithin_13 (by rw [← hF]; exact ⟨rfl, rfl⟩)
  · rw [if_pos hc1] at hF hS
    refine g_iconst (v := 1) C d_N_isWithin_8 (by decide) ?_
    refine g_goto C 13 d_N_isWithin_9 (by decide) ?_
    exact c_zret (M := M) C hr hlocks hle (by decide) d_N_isWithin_13 (by rw [← hF]; exact ⟨rfl, rfl⟩)
def F_Ty_partsSuit (cs : Nat → ClassId) (M : gMem) (a0 : Nat) (x1 : Int32) (x2 : Int32) : Int32 := mbind (F_Ce_at cs M ((cQ M a0 0).getD 0) x2) (fun w4 => mbind (F_Ce_at cs M ((cQ M a0 0).getD 0) x1) (fun w8 => mbind (F_Ty_suits cs M a0 w4 w8) (fun w11 => if w11 = 0 then (0) else (mbind (F_Ce_at cs M ((cQ M a0 1).getD 0) x1) (fun w16 => mbind (F_Ce_at cs M ((cQ M a0 1).getD 0) x2) (fun w20 => mbind (F_Ty_suits cs M a0 w16 w20) (fun w23 => if w23 = 0 then (0) else (mbind (F_Ce_at cs M ((cQ M a0 2).getD 0) x1) (fun w28 => mbind (F_Ce_at cs M ((cQ M a0 2).getD 0) x2) (fun w32 => mbind (F_N_isWithin cs M w28 w32) (fun w34 => if w34 = 0 then (0) else (1))))))))))))
def S_Ty_partsSuit (cs : Nat → ClassId) (lim : Nat × Nat) (M : gMem) (a0 : Nat) (x1 : Int32) (x2 : Int32) : Prop := (cOk 1 M a0) ∧ ((cOq 2 M (cQ M a0 0)) ∧ ((S_Ce_at cs lim M ((cQ M a0 0).getD 0) x2) ∧ (mbind (F_Ce_at cs M ((cQ M a0 0).getD 0) x2) (fun w4 => (cOk 1 M a0) ∧ ((cOq 2 M (cQ M a0 0)) ∧ ((S_Ce_at cs lim M ((cQ M a0 0).getD 0) x1) ∧ (mbind (F_Ce_at cs M ((cQ M a0 0).getD 0) x1) (fun w8 => (cOk 1 M a0) ∧ ((S_Ty_suits cs lim M a0 w4 w8) ∧ (mbind (F_Ty_suits cs M a0 w4 w8) (fun w11 => if w11 = 0 then (True) else ((cOk 1 M a0) ∧ ((cOq 2 M (cQ M a0 1)) ∧ ((S_Ce_at cs lim M ((cQ M a0 1).getD 0) x1) ∧ (mbind (F_Ce_at cs M ((cQ M a0 1).getD 0) x1) (fun w16 => (cOk 1 M a0) ∧ ((cOq 2 M (cQ M a0 1)) ∧ ((S_Ce_at cs lim M ((cQ M a0 1).getD 0) x2) ∧ (mbind (F_Ce_at cs M ((cQ M a0 1).getD 0) x2) (fun w20 => (cOk 1 M a0) ∧ ((S_Ty_suits cs lim M a0 w16 w20) ∧ (mbind (F_Ty_suits cs M a0 w16 w20) (fun w23 => if w23 = 0 then (True) else ((cOk 1 M a0) ∧ ((cOq 2 M (cQ M a0 2)) ∧ ((S_Ce_at cs lim M ((cQ M a0 2).getD 0) x1) ∧ (mbind (F_Ce_at cs M ((cQ M a0 2).getD 0) x1) (fun w28 => (cOk 1 M a0) ∧ ((cOq 2 M (cQ M a0 2)) ∧ ((S_Ce_at cs lim M ((cQ M a0 2).getD 0) x2) ∧ (mbind (F_Ce_at cs M ((cQ M a0 2).getD 0) x2) (fun w32 => (S_N_isWithin cs lim M w28 w32) ∧ (mbind (F_N_isWithin cs M w28 w32) (fun w34 => if w34 = 0 then (True) else (True)))))))))))))))))))))))))))))))))))
set_option maxRecDepth 100000 in
set_option maxHeartbeats 4000000 in
theorem cc_Ty_partsSuit (l : Launch) (hf : l.flags = pinnedFlags ++ [noTraceFlag]) (D : va_G) (cs : Nat → ClassId) (B : Nat) (dE : Nat × Nat) (lim : Nat × Nat) (M : gMem) (a0 : Nat) (x1 : Int32) (x2 : Int32) (hS : S_Ty_partsSuit cs lim M a0 x1 x2) : cMet l y_Ty_partsSuit (Cond.code y_Ty_partsSuit c_Ty_partsSuit 3 (some .boolean)) (2) (43) D cs B dE (fun _ => False) lim [.ref a0, .int x1, .int x2] M (fun x M' => x = .inl (some (.int (F_Ty_partsSuit cs M a0 x1 x2))) ∧ M' = M) := by
  refine cMet.ofW (by decide) (Nat.le_of_ble_eq_true rfl) (lv0 := [(0, .ref a0), (1, .int x1), (2, .int x2)]) rfl ?_
  intro p e s m args below meth c C hE hR0 hle hr hlocks hex hn
  generalize hF : F_Ty_partsSuit cs M a0 x1 x2 = Fv
  unfold F_Ty_partsSuit at hF
  unfold S_Ty_partsSuit at hS
  refine g_aload_n C d_Ty_partsSuit_0 rfl ?_
  refine g_aload_n C d_Ty_partsSuit_1 rfl ?_
  obtain ⟨ho1, hS⟩ := hS
  refine c_getq C hE.1 (ci := 1) i_Ty rfl 0 (by decide) (by decide) (by decide) kf_Ty_14 d_Ty_partsSuit_2 ho1 ?_
  refine g_iload_n C d_Ty_partsSuit_5 rfl ?_
  obtain ⟨ho2, hS⟩ := hS
  refine GW.known2 (a := (cQ M a0 0).getD 0) (cOq.at ho2).1 ?_
  obtain ⟨hs3, hS⟩ := hS
  refine c_call (av := [.ref ((cQ M a0 0).getD 0), .int x2]) (rest := [.ref a0]) C hE (fun _ h => h.elim) ⟨rfl, rfl⟩ hle (cc_Ce_at l hf D cs B dE lim _ ((cQ M a0 0).getD 0) x2 hs3) (fun _ h => h.elim) kd_Ce_at ki_Ce (Nat.le_of_ble_eq_true rfl) (Nat.le_of_ble_eq_true rfl) d_Ty_partsSuit_6 (Nat.le_of_ble_eq_true rfl) (c_fV (n := 1) (ci := 2) C hE.1 rfl km_Ty_31 kv_Ce_at kl_Ce_at kd_Ce_at ⟨by decide, by decide, by decide⟩ rfl rfl d_Ty_partsSuit_6 (cOq.at ho2).2) (fun v1 M1 hv hle => ?_) (fun E1 M1 hv hle => ?_)
  · rw [mbind_eq] at hF hS
    obtain ⟨hx, hM1⟩ := hv
    have hM2 := hM1.symm
    subst hM2
    generalize hq_w4 : F_Ce_at cs M ((cQ M a0 0).getD 0) x2 = w4 at hF hS hx hle ⊢
    cases hx
    refine GW.eqs (st' := [.int w4, .ref a0]) rfl ?_
    refine g_aload_n C d_Ty_partsSuit_9 rfl ?_
    obtain ⟨ho5, hS⟩ := hS
    refine c_getq C hE.1 (ci := 1) i_Ty rfl 0 (by decide) (by decide) (by decide) kf_Ty_14 d_Ty_partsSuit_10 ho5 ?_
    refine g_iload_n C d_Ty_partsSuit_13 rfl ?_
    obtain ⟨ho6, hS⟩ := hS
    refine GW.known2 (a := (cQ M a0 0).getD 0) (cOq.at ho6).1 ?_
    obtain ⟨hs7, hS⟩ := hS
    refine c_call (av := [.ref ((cQ M a0 0).getD 0), .int x1]) (rest := [.int w4, .ref a0]) C hE (fun _ h => h.elim) ⟨rfl, rfl⟩ hle (cc_Ce_at l hf D cs B dE lim _ ((cQ M a0 0).getD 0) x1 hs7) (fun _ h => h.elim) kd_Ce_at ki_Ce (Nat.le_of_ble_eq_true rfl) (Nat.le_of_ble_eq_true rfl) d_Ty_partsSuit_14 (Nat.le_of_ble_eq_true rfl) (c_fV (n := 1) (ci := 2) C hE.1 rfl km_Ty_31 kv_Ce_at kl_Ce_at kd_Ce_at ⟨by decide, by decide, by decide⟩ rfl rfl d_Ty_partsSuit_14 (cOq.at ho6).2) (fun v1 M1 hv hle => ?_) (fun E1 M1 hv hle => ?_)
    · rw [mbind_eq] at hF hS
      obtain ⟨hx, hM1⟩ := hv
      have hM2 := hM1.symm
      subst hM2
      generalize hq_w8 : F_Ce_at cs M ((cQ M a0 0).getD 0) x1 = w8 at hF hS hx hle ⊢
      cases hx
      refine GW.eqs (st' := [.int w8, .int w4, .ref a0]) rfl ?_
      obtain ⟨ho9, hS⟩ := hS
      obtain ⟨hs10, hS⟩ := hS
      refine c_call (av := [.ref a0, .int w4, .int w8]) (rest := []) C hE (fun _ h => h.elim) ⟨rfl, rfl⟩ hle (cc_Ty_suits l hf D cs B dE lim _ a0 w4 w8 hs10) (fun _ h => h.elim) kd_Ty_suits ki_Ty (Nat.le_of_ble_eq_true rfl) (Nat.le_of_ble_eq_true rfl) d_Ty_partsSuit_17 (Nat.le_of_ble_eq_true rfl) (c_fV (n := 2) (ci := 1) C hE.1 rfl km_Ty_51 kv_Ty_suits kl_Ty_suits kd_Ty_suits ⟨by decide, by decide, by decide⟩ rfl rfl d_Ty_partsSuit_17 ho9) (fun v1 M1 hv hle => ?_) (fun E1 M1 hv hle => ?_)
      · rw [mbind_eq] at hF hS
        obtain ⟨hx, hM1⟩ := hv
        have hM2 := hM1.symm
        subst hM2
        generalize hq_w11 : F_Ty_suits cs M a0 w4 w8 = w11 at hF hS hx hle ⊢
        cases hx
        refine GW.eqs (st' := [.int w11]) rfl ?_
        refine g_if_eq C 72 d_Ty_partsSuit_20 (by decide) (fun hc12 => ?_) (fun hc12 => ?_)
        · rw [if_pos hc12] at hF hS
          refine g_iconst (v := 0) C d_Ty_partsSuit_72 (by decide) ?_
          exact c_zret (M := M) C hr hlocks hle (by decide) d_Ty_partsSuit_73 (by rw [← hF]; exact ⟨rfl, rfl⟩)
        · rw [if_neg hc12] at hF hS
          refine g_aload_n C d_Ty_partsSuit_23 rfl ?_
          refine g_aload_n C d_Ty_partsSuit_24 rfl ?_
          obtain ⟨ho13, hS⟩ := hS
          refine c_getq C hE.1 (ci := 1) i_Ty rfl 1 (by decide) (by decide) (by decide) kf_Ty_18 d_Ty_partsSuit_25 ho13 ?_
          refine g_iload_n C d_Ty_partsSuit_28 rfl ?_
          obtain ⟨ho14, hS⟩ := hS
          refine GW.known2 (a := (cQ M a0 1).getD 0) (cOq.at ho14).1 ?_
          obtain ⟨hs15, hS⟩ := hS
          refine c_call (av := [.ref ((cQ M a0 1).getD 0), .int x1]) (rest := [.ref a0]) C hE (fun _ h => h.elim) ⟨rfl, rfl⟩ hle (cc_Ce_at l hf D cs B dE lim _ ((cQ M a0 1).getD 0) x1 hs15) (fun _ h => h.elim) kd_Ce_at ki_Ce (Nat.le_of_ble_eq_true rfl) (Nat.le_of_ble_eq_true rfl) d_Ty_partsSuit_29 (Nat.le_of_ble_eq_true rfl) (c_fV (n := 1) (ci := 2) C hE.1 rfl km_Ty_31 kv_Ce_at kl_Ce_at kd_Ce_at ⟨by decide, by decide, by decide⟩ rfl rfl d_Ty_partsSuit_29 (cOq.at ho14).2) (fun v1 M1 hv hle => ?_) (fun E1 M1 hv hle => ?_)
          · rw [mbind_eq] at hF hS
            obtain ⟨hx, hM1⟩ := hv
            have hM2 := hM1.symm
            subst hM2
            generalize hq_w16 : F_Ce_at cs M ((cQ M a0 1).getD 0) x1 = w16 at hF hS hx hle ⊢
            cases hx
            refine GW.eqs (st' := [.int w16, .ref a0]) rfl ?_
            refine g_aload_n C d_Ty_partsSuit_32 rfl ?_
            obtain ⟨ho17, hS⟩ := hS
            refine c_getq C hE.1 (ci := 1) i_Ty rfl 1 (by decide) (by decide) (by decide) kf_Ty_18 d_Ty_partsSuit_33 ho17 ?_
            refine g_iload_n C d_Ty_partsSuit_36 rfl ?_
            obtain ⟨ho18, hS⟩ := hS
            refine GW.known2 (a := (cQ M a0 1).getD 0) (cOq.at ho18).1 ?_
            obtain ⟨hs19, hS⟩ := hS
            refine c_call (av := [.ref ((cQ M a0 1).getD 0), .int x2]) (rest := [.int w16, .ref a0]) C hE (fun _ h => h.elim) ⟨rfl, rfl⟩ hle (cc_Ce_at l hf D cs B dE lim _ ((cQ M a0 1).getD 0) x2 hs19) (fun _ h => h.elim) kd_Ce_at ki_Ce (Nat.le_of_ble_eq_true rfl) (Nat.le_of_ble_eq_true rfl) d_Ty_partsSuit_37 (Nat.le_of_ble_eq_true rfl) (c_fV (n := 1) (ci := 2) C hE.1 rfl km_Ty_31 kv_Ce_at kl_Ce_at kd_Ce_at ⟨by decide, by decide, by decide⟩ rfl rfl d_Ty_partsSuit_37 (cOq.at ho18).2) (fun v1 M1 hv hle => ?_) (fun E1 M1 hv hle => ?_)
            · rw [mbind_eq] at hF hS
              obtain ⟨hx, hM1⟩ := hv
              have hM2 := hM1.symm
              subst hM2
              generalize hq_w20 : F_Ce_at cs M ((cQ M a0 1).getD 0) x2 = w20 at hF hS hx hle ⊢
              cases hx
              refine GW.eqs (st' := [.int w20, .int w16, .ref a0]) rfl ?_
              obtain ⟨ho21, hS⟩ := hS
              obtain ⟨hs22, hS⟩ := hS
              refine c_call (av := [.ref a0, .int w16, .int w20]) (rest := []) C hE (fun _ h => h.elim) ⟨rfl, rfl⟩ hle (cc_Ty_suits l hf D cs B dE lim _ a0 w16 w20 hs22) (fun _ h => h.elim) kd_Ty_suits ki_Ty (Nat.le_of_ble_eq_true rfl) (Nat.le_of_ble_eq_true rfl) d_Ty_partsSuit_40 (Nat.le_of_ble_eq_true rfl) (c_fV (n := 2) (ci := 1) C hE.1 rfl km_Ty_51 kv_Ty_suits kl_Ty_suits kd_Ty_suits ⟨by decide, by decide, by decide⟩ rfl rfl d_Ty_partsSuit_40 ho21) (fun v1 M1 hv hle => ?_) (fun E1 M1 hv hle => ?_)
              · rw [mbind_eq] at hF hS
                obtain ⟨hx, hM1⟩ := hv
                have hM2 := hM1.symm
                subst hM2
                generalize hq_w23 : F_Ty_suits cs M a0 w16 w20 = w23 at hF hS hx hle ⊢
                cases hx
                refine GW.eqs (st' := [.int w23]) rfl ?_
                refine g_if_eq C 72 d_Ty_partsSuit_43 (by decide) (fun hc24 => ?_) (fun hc24 => ?_)
                · rw [if_pos hc24] at hF hS
                  refine g_iconst (v := 0) C d_Ty_partsSuit_72 (by decide) ?_
                  exact c_zret (M := M) C hr hlocks hle (by decide) d_Ty_partsSuit_73 (by rw [← hF]; exact ⟨rfl, rfl⟩)
                · rw [if_neg hc24] at hF hS
                  refine g_aload_n C d_Ty_partsSuit_46 rfl ?_
                  obtain ⟨ho25, hS⟩ := hS
                  refine c_getq C hE.1 (ci := 1) i_Ty rfl 2 (by decide) (by decide) (by decide) kf_Ty_21 d_Ty_partsSuit_47 ho25 ?_
                  refine g_iload_n C d_Ty_partsSuit_50 rfl ?_
                  obtain ⟨ho26, hS⟩ := hS
                  refine GW.known2 (a := (cQ M a0 2).getD 0) (cOq.at ho26).1 ?_
                  obtain ⟨hs27, hS⟩ := hS
                  refine c_call (av := [.ref ((cQ M a0 2).getD 0), .int x1]) (rest := []) C hE (fun _ h => h.elim) ⟨rfl, rfl⟩ hle (cc_Ce_at l hf D cs B dE lim _ ((cQ M a0 2).getD 0) x1 hs27) (fun _ h => h.elim) kd_Ce_at ki_Ce (Nat.le_of_ble_eq_true rfl) (Nat.le_of_ble_eq_true rfl) d_Ty_partsSuit_51 (Nat.le_of_ble_eq_true rfl) (c_fV (n := 1) (ci := 2) C hE.1 rfl km_Ty_31 kv_Ce_at kl_Ce_at kd_Ce_at ⟨by decide, by decide, by decide⟩ rfl rfl d_Ty_partsSuit_51 (cOq.at ho26).2) (fun v1 M1 hv hle => ?_) (fun E1 M1 hv hle => ?_)
                  · rw [mbind_eq] at hF hS
                    obtain ⟨hx, hM1⟩ := hv
                    have hM2 := hM1.symm
                    subst hM2
                    generalize hq_w28 : F_Ce_at cs M ((cQ M a0 2).getD 0) x1 = w28 at hF hS hx hle ⊢
                    cases hx
                    refine GW.eqs (st' := [.int w28]) rfl ?_
                    refine g_aload_n C d_Ty_partsSuit_54 rfl ?_
                    obtain ⟨ho29, hS⟩ := hS
                    refine c_getq C hE.1 (ci := 1) i_Ty rfl 2 (by decide) (by decide) (by decide) kf_Ty_21 d_Ty_partsSuit_55 ho29 ?_
                    refine g_iload_n C d_Ty_partsSuit_58 rfl ?_
                    obtain ⟨ho30, hS⟩ := hS
                    refine GW.known2 (a := (cQ M a0 2).getD 0) (cOq.at ho30).1 ?_
                    obtain ⟨hs31, hS⟩ := hS
                    refine c_call (av := [.ref ((cQ M a0 2).getD 0), .int x2]) (rest := [.int w28]) C hE (fun _ h => h.elim) ⟨rfl, rfl⟩ hle (cc_Ce_at l hf D cs B dE lim _ ((cQ M a0 2).getD 0) x2 hs31) (fun _ h => h.elim) kd_Ce_at ki_Ce (Nat.le_of_ble_eq_true rfl) (Nat.le_of_ble_eq_true rfl) d_Ty_partsSuit_59 (Nat.le_of_ble_eq_true rfl) (c_fV (n := 1) (ci := 2) C hE.1 rfl km_Ty_31 kv_Ce_at kl_Ce_at kd_Ce_at ⟨by decide, by decide, by decide⟩ rfl rfl d_Ty_partsSuit_59 (cOq.at ho30).2) (fun v1 M1 hv hle => ?_) (fun E1 M1 hv hle => ?_)
                    · rw [mbind_eq] at hF hS
                      obtain ⟨hx, hM1⟩ := hv
                      have hM2 := hM1.symm
                      subst hM2
                      generalize hq_w32 : F_Ce_at cs M ((cQ M a0 2).getD 0) x2 = w32 at hF hS hx hle ⊢
                      cases hx
                      refine GW.eqs (st' := [.int w32, .int w28]) rfl ?_
                      obtain ⟨hs33, hS⟩ := hS
                      refine c_call (av := [.int w28, .int w32]) (rest := []) C hE (fun _ h => h.elim) ⟨rfl, rfl⟩ hle (cc_N_isWithin l hf D cs B dE lim _ w28 w32 hs33) (fun _ h => h.elim) kd_N_isWithin ki_N (Nat.le_of_ble_eq_true rfl) (Nat.le_of_ble_eq_true rfl) d_Ty_partsSuit_62 (Nat.le_of_ble_eq_true rfl) (c_fSN (n := 2) C (gE_mN hE km_Ty_54) ks_N_isWithin ki_N kd_N_isWithin ⟨by decide, by decide, by decide⟩ rfl rfl d_Ty_partsSuit_62) (fun v1 M1 hv hle => ?_) (fun E1 M1 hv hle => ?_)
                      · rw [mbind_eq] at hF hS
                        obtain ⟨hx, hM1⟩ := hv
                        have hM2 := hM1.symm
                        subst hM2
                        generalize hq_w34 : F_N_isWithin cs M w28 w32 = w34 at hF hS hx hle ⊢
                        cases hx
                        refine GW.eqs (st' := [.int w34]) rfl ?_
                        refine g_if_eq C 72 d_Ty_partsSuit_65 (by decide) (fun hc35 => ?_) (fun hc35 => ?_)
                        · rw [if_pos hc35] at hF hS
                          refine g_iconst (v := 0) C d_Ty_partsSuit_72 (by decide) ?_
                          exact c_zret (M := M) C hr hlocks hle (by decide) d_Ty_partsSuit_73 (by rw [← hF]; exact ⟨rfl, rfl⟩)
                        · rw [if_neg hc35] at hF hS
                          refine g_iconst (v := 1) C d_Ty_partsSuit_68 (by decide) ?_
                          refine g_goto C 73 d_Ty_partsSuit_69 (by decide) ?_
                          exact c_zret (M := M) C hr hlocks hle (by decide) d_Ty_partsSuit_73 (by rw [← hF]; exact ⟨rfl, rfl⟩)
                      · cases hv.1
                    · cases hv.1
                  · cases hv.1
              · cases hv.1
            · cases hv.1
          · cases hv.1
      · cases hv.1
    · cases hv.1
  · cases hv.1
def F_Ty_write (cs : Nat → ClassId) (M : gMem) (a0 : Nat) (x1 : Int32) (x2 : Int32) (x3 : Int32) : gMem := if x3 = 0 then (mbind (F_Ce_at cs M ((cQ M a0 3).getD 0) ((x1 * 16) + (x2 / 32))) (fun w6 => mbind (F_Ce_put cs M ((cQ M a0 3).getD 0) ((x1 * 16) + (x2 / 32)) (w6 &&& ((1 <<< ((x2 - x2 / 32 * 32) &&& 31)) ^^^ (-1)))) (fun w9 => w9))) else (mbind (F_Ce_at cs M ((cQ M a0 3).getD 0) ((x1 * 16) + (x2 / 32))) (fun w13 => mbind (F_Ce_put cs M ((cQ M a0 3).getD 0) ((x1 * 16) + (x2 / 32)) (w13 ||| (1 <<< ((x2 - x2 / 32 * 32) &&& 31)))) (fun w16 => w16)))
def S_Ty_write (cs : Nat → ClassId) (lim : Nat × Nat) (M : gMem) (a0 : Nat) (x1 : Int32) (x2 : Int32) (x3 : Int32) : Prop := (cOk 1 M a0) ∧ (if x3 = 0 then ((cOk 1 M a0) ∧ ((cOq 2 M (cQ M a0 3)) ∧ ((S_Ce_at cs lim M ((cQ M a0 3).getD 0) ((x1 * 16) + (x2 / 32))) ∧ (mbind (F_Ce_at cs M ((cQ M a0 3).getD 0) ((x1 * 16) + (x2 / 32))) (fun w6 => (cOq 2 M (cQ M a0 3)) ∧ ((S_Ce_put cs lim M ((cQ M a0 3).getD 0) ((x1 * 16) + (x2 / 32)) (w6 &&& ((1 <<< ((x2 - x2 / 32 * 32) &&& 31)) ^^^ (-1)))) ∧ (mbind (F_Ce_put cs M ((cQ M a0 3).getD 0) ((x1 * 16) + (x2 / 32)) (w6 &&& ((1 <<< ((x2 - x2 / 32 * 32) &&& 31)) ^^^ (-1)))) (fun w9 => True)))))))) else ((cOk 1 M a0) ∧ ((cOq 2 M (cQ M a0 3)) ∧ ((S_Ce_at cs lim M ((cQ M a0 3).getD 0) ((x1 * 16) + (x2 / 32))) ∧ (mbind (F_Ce_at cs M ((cQ M a0 3).getD 0) ((x1 * 16) + (x2 / 32))) (fun w13 => (cOq 2 M (cQ M a0 3)) ∧ ((S_Ce_put cs lim M ((cQ M a0 3).getD 0) ((x1 * 16) + (x2 / 32)) (w13 ||| (1 <<< ((x2 - x2 / 32 * 32) &&& 31)))) ∧ (mbind (F_Ce_put cs M ((cQ M a0 3).getD 0) ((x1 * 16) + (x2 / 32)) (w13 ||| (1 <<< ((x2 - x2 / 32 * 32) &&& 31)))) (fun w16 => True)))))))))
set_option maxRecDepth 100000 in
set_option maxHeartbeats 4000000 in
theorem cc_Ty_write (l : Launch) (hf : l.flags = pinnedFlags ++ [noTraceFlag]) (D : va_G) (cs : Nat → ClassId) (B : Nat) (dE : Nat × Nat) (lim : Nat × Nat) (M : gMem) (a0 : Nat) (x1 : Int32) (x2 : Int32) (x3 : Int32) (hS : S_Ty_write cs lim M a0 x1 x2 x3) : cMet l y_Ty_write (Cond.code y_Ty_write c_Ty_write 6 none) (3) (104) D cs B dE (gA B) lim [.ref a0, .int x1, .int x2, .int x3] M (fun x M' => x = .inl none ∧ M' = (F_Ty_write cs M a0 x1 x2 x3)) := by
  refine cMet.ofW (by decide) (Nat.le_of_ble_eq_true rfl) (lv0 := [(0, .ref a0), (1, .int x1), (2, .int x2), (3, .int x3)]) rfl ?_
  intro p e s m args below meth c C hE hR0 hle hr hlocks hex hn
  generalize hF : F_Ty_write cs M a0 x1 x2 x3 = Fv
  unfold F_Ty_write at hF
  unfold S_Ty_write at hS
  refine g_iload_n C d_Ty_write_0 rfl ?_
  refine g_bipush (v := 16) C d_Ty_write_1 (by decide) ?_
  refine g_imul C d_Ty_write_3 ?_
  refine g_iload_n C d_Ty_write_4 rfl ?_
  refine g_bipush (v := 32) C d_Ty_write_5 (by decide) ?_
  refine g_idiv C d_Ty_write_7 (by decide) ?_
  refine g_iadd C d_Ty_write_8 ?_
  refine g_istore (lv' := [(4, .int ((x1 * 16) + (x2 / 32))), (0, .ref a0), (1, .int x1), (2, .int x2), (3, .int x3)]) C d_Ty_write_9 (by decide) rfl ?_
  refine g_iconst (v := 1) C d_Ty_write_11 (by decide) ?_
  refine g_iload_n C d_Ty_write_12 rfl ?_
  refine g_bipush (v := 32) C d_Ty_write_13 (by decide) ?_
  refine g_irem C d_Ty_write_15 (by decide) ?_
  refine g_ishl C d_Ty_write_16 ?_
  refine g_istore (lv' := [(5, .int (1 <<< ((x2 - x2 / 32 * 32) &&& 31))), (4, .int ((x1 * 16) + (x2 / 32))), (0, .ref a0), (1, .int x1), (2, .int x2), (3, .int x3)]) C d_Ty_write_17 (by decide) rfl ?_
  refine g_aload_n C d_Ty_write_19 rfl ?_
  obtain ⟨ho1, hS⟩ := hS
  refine c_getq C hE.1 (ci := 1) i_Ty rfl 3 (by decide) (by decide) (by decide) kf_Ty_24 d_Ty_write_20 ho1 ?_
  refine g_iload C d_Ty_write_23 rfl ?_
  refine g_iload_n C d_Ty_write_25 rfl ?_
  refine g_if_eq C 44 d_Ty_write_26 (by decide) (fun hc2 => ?_) (fun hc2 => ?_)
  · rw [if_pos hc2] at hF hS
    refine g_aload_n C d_Ty_write_44 rfl ?_
    obtain ⟨ho3, hS⟩ := hS
    refine c_getq C hE.1 (ci := 1) i_Ty rfl 3 (by decide) (by decide) (by decide) kf_Ty_24 d_Ty_write_45 ho3 ?_
    refine g_iload C d_Ty_write_48 rfl ?_
    obtain ⟨ho4, hS⟩ := hS
    refine GW.known2 (a := (cQ M a0 3).getD 0) (cOq.at ho4).1 ?_
    obtain ⟨hs5, hS⟩ := hS
    refine c_call (av := [.ref ((cQ M a0 3).getD 0), .int ((x1 * 16) + (x2 / 32))]) (rest := [.int ((x1 * 16) + (x2 / 32)), va_rf (cQ M a0 3)]) C hE (fun _ h => h.elim) ⟨rfl, rfl⟩ hle (cc_Ce_at l hf D cs B dE lim _ ((cQ M a0 3).getD 0) ((x1 * 16) + (x2 / 32)) hs5) (fun _ h => h.elim) kd_Ce_at ki_Ce (Nat.le_of_ble_eq_true rfl) (Nat.le_of_ble_eq_true rfl) d_Ty_write_50 (by simp only [List.map_cons, List.map_nil, rf_cat, List.sum_cons, List.sum_nil]; exact Nat.le_of_ble_eq_true rfl) (c_fV (n := 1) (ci := 2) C hE.1 rfl km_Ty_31 kv_Ce_at kl_Ce_at kd_Ce_at ⟨by decide, by decide, by decide⟩ rfl rfl d_Ty_write_50 (cOq.at ho4).2) (fun v1 M1 hv hle => ?_) (fun E1 M1 hv hle => ?_)
    · rw [mbind_eq] at hF hS
      obtain ⟨hx, hM1⟩ := hv
      have hM2 := hM1.symm
      subst hM2
      generalize hq_w6 : F_Ce_at cs M ((cQ M a0 3).getD 0) ((x1 * 16) + (x2 / 32)) = w6 at hF hS hx hle ⊢
      cases hx
      refine GW.eqs (st' := [.int w6, .int ((x1 * 16) + (x2 / 32)), va_rf (cQ M a0 3)]) rfl ?_
      refine g_iload C d_Ty_write_53 rfl ?_
      refine g_iconst (v := (-1)) C d_Ty_write_55 (by decide) ?_
      refine g_ixor C d_Ty_write_56 ?_
      refine g_iand C d_Ty_write_57 ?_
      refine GW.more (A' := gA B) (fun _ h => h.elim) ?_
      obtain ⟨ho7, hS⟩ := hS
      refine GW.known3 (a := (cQ M a0 3).getD 0) (cOq.at ho7).1 ?_
      obtain ⟨hs8, hS⟩ := hS
      refine c_call (av := [.ref ((cQ M a0 3).getD 0), .int ((x1 * 16) + (x2 / 32)), .int (w6 &&& ((1 <<< ((x2 - x2 / 32 * 32) &&& 31)) ^^^ (-1)))]) (rest := []) C hE (fun _ h => h) ⟨rfl, rfl⟩ hle (cc_Ce_put l hf D cs B dE lim _ ((cQ M a0 3).getD 0) ((x1 * 16) + (x2 / 32)) (w6 &&& ((1 <<< ((x2 - x2 / 32 * 32) &&& 31)) ^^^ (-1))) hs8) (fun _ h => h) kd_Ce_put ki_Ce (Nat.le_of_ble_eq_true rfl) (Nat.le_of_ble_eq_true rfl) d_Ty_write_58 (Nat.le_of_ble_eq_true rfl) (c_fV (n := 2) (ci := 2) C hE.1 rfl km_Ty_39 kv_Ce_put kl_Ce_put kd_Ce_put ⟨by decide, by decide, by decide⟩ rfl rfl d_Ty_write_58 (cOq.at ho7).2) (fun v1 M1 hv hle => ?_) (fun E1 M1 hv hle => ?_)
      · rw [mbind_eq] at hF hS
        obtain ⟨hx, hM1⟩ := hv
        have hM2 := hM1.symm
        subst hM2
        generalize hq_w9 : F_Ce_put cs M ((cQ M a0 3).getD 0) ((x1 * 16) + (x2 / 32)) (w6 &&& ((1 <<< ((x2 - x2 / 32 * 32) &&& 31)) ^^^ (-1))) = w9 at hF hS hx hle ⊢
        cases hx
        refine GW.eqs (st' := []) rfl ?_
        exact c_vret (M := w9) C hr hlocks hle d_Ty_write_61 (by rw [← hF]; exact ⟨rfl, rfl⟩)
      · cases hv.1
    · cases hv.1
  · rw [if_neg hc2] at hF hS
    refine g_aload_n C d_Ty_write_29 rfl ?_
    obtain ⟨ho10, hS⟩ := hS
    refine c_getq C hE.1 (ci := 1) i_Ty rfl 3 (by decide) (by decide) (by decide) kf_Ty_24 d_Ty_write_30 ho10 ?_
    refine g_iload C d_Ty_write_33 rfl ?_
    obtain ⟨ho11, hS⟩ := hS
    refine GW.known2 (a := (cQ M a0 3).getD 0) (cOq.at ho11).1 ?_
    obtain ⟨hs12, hS⟩ := hS
    refine c_call (av := [.ref ((cQ M a0 3).getD 0), .int ((x1 * 16) + (x2 / 32))]) (rest := [.int ((x1 * 16) + (x2 / 32)), va_rf (cQ M a0 3)]) C hE (fun _ h => h.elim) ⟨rfl, rfl⟩ hle (cc_Ce_at l hf D cs B dE lim _ ((cQ M a0 3).getD 0) ((x1 * 16) + (x2 / 32)) hs12) (fun _ h => h.elim) kd_Ce_at ki_Ce (Nat.le_of_ble_eq_true rfl) (Nat.le_of_ble_eq_true rfl) d_Ty_write_35 (by simp only [List.map_cons, List.map_nil, rf_cat, List.sum_cons, List.sum_nil]; exact Nat.le_of_ble_eq_true rfl) (c_fV (n := 1) (ci := 2) C hE.1 rfl km_Ty_31 kv_Ce_at kl_Ce_at kd_Ce_at ⟨by decide, by decide, by decide⟩ rfl rfl d_Ty_write_35 (cOq.at ho11).2) (fun v1 M1 hv hle => ?_) (fun E1 M1 hv hle => ?_)
    · rw [mbind_eq] at hF hS
      obtain ⟨hx, hM1⟩ := hv
      have hM2 := hM1.symm
      subst hM2
      generalize hq_w13 : F_Ce_at cs M ((cQ M a0 3).getD 0) ((x1 * 16) + (x2 / 32)) = w13 at hF hS hx hle ⊢
      cases hx
      refine GW.eqs (st' := [.int w13, .int ((x1 * 16) + (x2 / 32)), va_rf (cQ M a0 3)]) rfl ?_
      refine g_iload C d_Ty_write_38 rfl ?_
      refine g_ior C d_Ty_write_40 ?_
      refine g_goto C 58 d_Ty_write_41 (by decide) ?_
      refine GW.more (A' := gA B) (fun _ h => h.elim) ?_
      obtain ⟨ho14, hS⟩ := hS
      refine GW.known3 (a := (cQ M a0 3).getD 0) (cOq.at ho14).1 ?_
      obtain ⟨hs15, hS⟩ := hS
      refine c_call (av := [.ref ((cQ M a0 3).getD 0), .int ((x1 * 16) + (x2 / 32)), .int (w13 ||| (1 <<< ((x2 - x2 / 32 * 32) &&& 31)))]) (rest := []) C hE (fun _ h => h) ⟨rfl, rfl⟩ hle (cc_Ce_put l hf D cs B dE lim _ ((cQ M a0 3).getD 0) ((x1 * 16) + (x2 / 32)) (w13 ||| (1 <<< ((x2 - x2 / 32 * 32) &&& 31))) hs15) (fun _ h => h) kd_Ce_put ki_Ce (Nat.le_of_ble_eq_true rfl) (Nat.le_of_ble_eq_true rfl) d_Ty_write_58 (Nat.le_of_ble_eq_true rfl) (c_fV (n := 2) (ci := 2) C hE.1 rfl km_Ty_39 kv_Ce_put kl_Ce_put kd_Ce_put ⟨by decide, by decide, by decide⟩ rfl rfl d_Ty_write_58 (cOq.at ho14).2) (fun v1 M1 hv hle => ?_) (fun E1 M1 hv hle => ?_)
      · rw [mbind_eq] at hF hS
        obtain ⟨hx, hM1⟩ := hv
        have hM2 := hM1.symm
        subst hM2
        generalize hq_w16 : F_Ce_put cs M ((cQ M a0 3).getD 0) ((x1 * 16) + (x2 / 32)) (w13 ||| (1 <<< ((x2 - x2 / 32 * 32) &&& 31))) = w16 at hF hS hx hle ⊢
        cases hx
        refine GW.eqs (st' := []) rfl ?_
        exact c_vret (M := w16) C hr hlocks hle d_Ty_write_61 (by rw [← hF]; exact ⟨rfl, rfl⟩)
      · cases hv.1
    · cases hv.1
def F_Ty_numberOf_77 (cs : Nat → ClassId) : Nat → gMem → Nat → Int32 → Int32 → Int32 → Int32 → Int32 → Int32 → Int32 × gMem
  | 0, M, _, _, _, _, _, _, _ => (0, M)
  | n + 1, M, a0, x1, x2, x3, x4, x5, x6 => if x5 ≤ x6 then ((x5, M)) else (mbind (F_Ty_partsSuit cs M a0 x5 x6) (fun w4 => mbind (F_Ty_write cs M a0 x5 x6 w4) (fun w7 => mbind (F_Ty_partsSuit cs w7 a0 x6 x5) (fun w10 => mbind (F_Ty_write cs w7 a0 x6 x5 w10) (fun w13 => F_Ty_numberOf_77 cs n w13 a0 x1 x2 x3 x4 x5 (x6 + 1))))))
def S_Ty_numberOf_77 (cs : Nat → ClassId) (lim : Nat × Nat) : Nat → gMem → Nat → Int32 → Int32 → Int32 → Int32 → Int32 → Int32 → Prop
  | 0, _, _, _, _, _, _, _, _ => False
  | n + 1, M, a0, x1, x2, x3, x4, x5, x6 => if x5 ≤ x6 then (True) else ((cOk 1 M a0) ∧ ((S_Ty_partsSuit cs lim M a0 x5 x6) ∧ (mbind (F_Ty_partsSuit cs M a0 x5 x6) (fun w4 => (cOk 1 M a0) ∧ ((S_Ty_write cs lim M a0 x5 x6 w4) ∧ (mbind (F_Ty_write cs M a0 x5 x6 w4) (fun w7 => (cOk 1 w7 a0) ∧ ((S_Ty_partsSuit cs lim w7 a0 x6 x5) ∧ (mbind (F_Ty_partsSuit cs w7 a0 x6 x5) (fun w10 => (cOk 1 w7 a0) ∧ ((S_Ty_write cs lim w7 a0 x6 x5 w10) ∧ (mbind (F_Ty_write cs w7 a0 x6 x5 w10) (fun w13 => S_Ty_numberOf_77 cs lim n w13 a0 x1 x2 x3 x4 x5 (x6 + 1))))))))))))))
set_option maxRecDepth 100000 in
set_option maxHeartbeats 4000000 in
theorem w_Ty_numberOf_77 {p : Program} {l : Launch} {e : Env} {s : State} {m : MethodId} {args : Array Value} {below : List Frame} {meth : Method} {c : Code} {D : va_G} {cs : Nat → ClassId} {B : Nat} {dE : Nat × Nat} {lim : Nat × Nat} {M0 : gMem} (C : CallFix p m c c_Ty_numberOf 7 s args gT y_Ty_numberOf.cls) (hE : gEnv D gcl (gtys cs) gz B dE s) (hf : l.flags = pinnedFlags ++ [noTraceFlag]) (hr : meth.sig.returnType = (some .int)) (hlocks : meth.locks = false) (hex : c.exceptionTable.isEmpty = true) (hn : meth.name = y_Ty_numberOf.name) : ∀ (n : Nat) (M : gMem) (a0 : Nat) (x1 : Int32) (x2 : Int32) (x3 : Int32) (x4 : Int32) (x5 : Int32) (x6 : Int32) (Fv : Int32 × gMem) (hle : cLe lim M0 M) (hS : S_Ty_numberOf_77 cs lim n M a0 x1 x2 x3 x4 x5 x6) (hF : F_Ty_numberOf_77 cs n M a0 x1 x2 x3 x4 x5 x6 = Fv), GW p l e ({ frames := 4, cells := lim.1 - M0.2.1, slots := lim.2 - M0.2.2, locals := 129 } : Room) s m args below meth c 7 (gA B) (cQ0 below D B (gA B) lim M0 (fun x M' => x = .inl (some (.int Fv.1)) ∧ M' = Fv.2) args s) (gR D gcl B M) (M.2.1 - M0.2.1) (M.2.2 - M0.2.2) 77 [(0, .ref a0), (1, .int x1), (2, .int x2), (3, .int x3), (4, .int x4), (5, .int x5), (6, .int x6)] [] := by
  intro n
  induction n with
  | zero =>
    intro M a0 x1 x2 x3 x4 x5 x6 Fv hle hS hF
    exact hS.elim
  | succ n ih =>
    intro M a0 x1 x2 x3 x4 x5 x6 Fv hle hS hF
    simp only [S_Ty_numberOf_77] at hS
    simp only [F_Ty_numberOf_77] at hF
    refine g_iload C d_Ty_numberOf_77 rfl ?_
    refine g_iload C d_Ty_numberOf_79 rfl ?_
    refine g_icmp_ge C 122 d_Ty_numberOf_81 (by decide) (fun hc1 => ?_) (fun hc1 => ?_)
    · rw [if_pos hc1] at hF hS
      refine g_iload C d_Ty_numberOf_122 rfl ?_
      exact c_iret (M := M) C hr hlocks hle d_Ty_numberOf_124 (by rw [← hF]; exact ⟨rfl, rfl⟩)
    · rw [if_neg hc1] at hF hS
      refine g_aload_n C d_Ty_numberOf_84 rfl ?_
      refine g_iload C d_Ty_numberOf_85 rfl ?_
      refine g_iload C d_Ty_numberOf_87 rfl ?_
      refine g_aload_n C d_Ty_numberOf_89 rfl ?_
      refine g_iload C d_Ty_numberOf_90 rfl ?_
      refine g_iload C d_Ty_numberOf_92 rfl ?_
      obtain ⟨ho2, hS⟩ := hS
      obtain ⟨hs3, hS⟩ := hS
      refine c_call (av := [.ref a0, .int x5, .int x6]) (rest := [.int x6, .int x5, .ref a0]) C hE (fun _ h => h) ⟨rfl, rfl⟩ hle (cc_Ty_partsSuit l hf D cs B dE lim _ a0 x5 x6 hs3) (fun _ h => h.elim) kd_Ty_partsSuit ki_Ty (Nat.le_of_ble_eq_true rfl) (Nat.le_of_ble_eq_true rfl) d_Ty_numberOf_94 (Nat.le_of_ble_eq_true rfl) (c_fV (n := 2) (ci := 1) C hE.1 rfl km_Ty_43 kv_Ty_partsSuit kl_Ty_partsSuit kd_Ty_partsSuit ⟨by decide, by decide, by decide⟩ rfl rfl d_Ty_numberOf_94 ho2) (fun v1 M1 hv hle => ?_) (fun E1 M1 hv hle => ?_)
      · rw [mbind_eq] at hF hS
        obtain ⟨hx, hM1⟩ := hv
        have hM2 := hM1.symm
        subst hM2
        generalize hq_w4 : F_Ty_partsSuit cs M a0 x5 x6 = w4 at hF hS hx hle ⊢
        cases hx
        refine GW.eqs (st' := [.int w4, .int x6, .int x5, .ref a0]) rfl ?_
        obtain ⟨ho5, hS⟩ := hS
        obtain ⟨hs6, hS⟩ := hS
        refine c_call (av := [.ref a0, .int x5, .int x6, .int w4]) (rest := []) C hE (fun _ h => h) ⟨rfl, rfl⟩ hle (cc_Ty_write l hf D cs B dE lim _ a0 x5 x6 w4 hs6) (fun _ h => h) kd_Ty_write ki_Ty (Nat.le_of_ble_eq_true rfl) (Nat.le_of_ble_eq_true rfl) d_Ty_numberOf_97 (Nat.le_of_ble_eq_true rfl) (c_fV (n := 3) (ci := 1) C hE.1 rfl km_Ty_47 kv_Ty_write kl_Ty_write kd_Ty_write ⟨by decide, by decide, by decide⟩ rfl rfl d_Ty_numberOf_97 ho5) (fun v1 M1 hv hle => ?_) (fun E1 M1 hv hle => ?_)
        · rw [mbind_eq] at hF hS
          obtain ⟨hx, hM1⟩ := hv
          have hM2 := hM1.symm
          subst hM2
          generalize hq_w7 : F_Ty_write cs M a0 x5 x6 w4 = w7 at hF hS hx hle ⊢
          cases hx
          refine GW.eqs (st' := []) rfl ?_
          refine g_aload_n C d_Ty_numberOf_100 rfl ?_
          refine g_iload C d_Ty_numberOf_101 rfl ?_
          refine g_iload C d_Ty_numberOf_103 rfl ?_
          refine g_aload_n C d_Ty_numberOf_105 rfl ?_
          refine g_iload C d_Ty_numberOf_106 rfl ?_
          refine g_iload C d_Ty_numberOf_108 rfl ?_
          obtain ⟨ho8, hS⟩ := hS
          obtain ⟨hs9, hS⟩ := hS
          refine c_call (av := [.ref a0, .int x6, .int x5]) (rest := [.int x5, .int x6, .ref a0]) C hE (fun _ h => h) ⟨rfl, rfl⟩ hle (cc_Ty_partsSuit l hf D cs B dE lim _ a0 x6 x5 hs9) (fun _ h => h.elim) kd_Ty_partsSuit ki_Ty (Nat.le_of_ble_eq_true rfl) (Nat.le_of_ble_eq_true rfl) d_Ty_numberOf_110 (Nat.le_of_ble_eq_true rfl) (c_fV (n := 2) (ci := 1) C hE.1 rfl km_Ty_43 kv_Ty_partsSuit kl_Ty_partsSuit kd_Ty_partsSuit ⟨by decide, by decide, by decide⟩ rfl rfl d_Ty_numberOf_110 ho8) (fun v1 M1 hv hle => ?_) (fun E1 M1 hv hle => ?_)
          · rw [mbind_eq] at hF hS
            obtain ⟨hx, hM1⟩ := hv
            have hM2 := hM1.symm
            subst hM2
            generalize hq_w10 : F_Ty_partsSuit cs w7 a0 x6 x5 = w10 at hF hS hx hle ⊢
            cases hx
            refine GW.eqs (st' := [.int w10, .int x5, .int x6, .ref a0]) rfl ?_
            obtain ⟨ho11, hS⟩ := hS
            obtain ⟨hs12, hS⟩ := hS
            refine c_call (av := [.ref a0, .int x6, .int x5, .int w10]) (rest := []) C hE (fun _ h => h) ⟨rfl, rfl⟩ hle (cc_Ty_write l hf D cs B dE lim _ a0 x6 x5 w10 hs12) (fun _ h => h) kd_Ty_write ki_Ty (Nat.le_of_ble_eq_true rfl) (Nat.le_of_ble_eq_true rfl) d_Ty_numberOf_113 (Nat.le_of_ble_eq_true rfl) (c_fV (n := 3) (ci := 1) C hE.1 rfl km_Ty_47 kv_Ty_write kl_Ty_write kd_Ty_write ⟨by decide, by decide, by decide⟩ rfl rfl d_Ty_numberOf_113 ho11) (fun v1 M1 hv hle => ?_) (fun E1 M1 hv hle => ?_)
            · rw [mbind_eq] at hF hS
              obtain ⟨hx, hM1⟩ := hv
              have hM2 := hM1.symm
              subst hM2
              generalize hq_w13 : F_Ty_write cs w7 a0 x6 x5 w10 = w13 at hF hS hx hle ⊢
              cases hx
              refine GW.eqs (st' := []) rfl ?_
              refine g_iinc (v := x6 + 1) (lv' := [(6, .int (x6 + 1)), (0, .ref a0), (1, .int x1), (2, .int x2), (3, .int x3), (4, .int x4), (5, .int x5)]) C d_Ty_numberOf_116 rfl rfl (by decide) rfl ?_
              refine g_goto C 77 d_Ty_numberOf_119 (by decide) ?_
              refine GW.subl [1, 2, 3, 4, 5, 6, 0] rfl ?_
              exact ih w13 a0 x1 x2 x3 x4 x5 (x6 + 1) Fv hle hS hF
            · cases hv.1
          · cases hv.1
        · cases hv.1
      · cases hv.1
def F_Ty_numberOf (cs : Nat → ClassId) (n : Nat) (M : gMem) (a0 : Nat) (x1 : Int32) (x2 : Int32) (x3 : Int32) : Int32 × gMem := mbind (F_Ty_find cs n M a0 x1 x2 x3) (fun w3 => if w3 = (-1) then (if (cI M a0 4) < 512 then (mbind (F_Ce_put cs M ((cQ M a0 0).getD 0) (cI M a0 4) x1) (fun w11 => mbind (F_Ce_put cs w11 ((cQ w11 a0 1).getD 0) (cI M a0 4) x2) (fun w15 => mbind (F_Ce_put cs w15 ((cQ w15 a0 2).getD 0) (cI M a0 4) x3) (fun w19 => F_Ty_numberOf_77 cs n (cP 1 w19 a0 4 (.int ((cI w19 a0 4) + 1))) a0 x1 x2 x3 w3 (cI M a0 4) 3)))) else ((w3, M))) else ((w3, M)))
def S_Ty_numberOf (cs : Nat → ClassId) (lim : Nat × Nat) (n : Nat) (M : gMem) (a0 : Nat) (x1 : Int32) (x2 : Int32) (x3 : Int32) : Prop := (cOk 1 M a0) ∧ ((S_Ty_find cs lim n M a0 x1 x2 x3) ∧ (mbind (F_Ty_find cs n M a0 x1 x2 x3) (fun w3 => if w3 = (-1) then ((cOk 1 M a0) ∧ (if (cI M a0 4) < 512 then ((cOk 1 M a0) ∧ ((cOk 1 M a0) ∧ ((cOq 2 M (cQ M a0 0)) ∧ ((S_Ce_put cs lim M ((cQ M a0 0).getD 0) (cI M a0 4) x1) ∧ (mbind (F_Ce_put cs M ((cQ M a0 0).getD 0) (cI M a0 4) x1) (fun w11 => (cOk 1 w11 a0) ∧ ((cOq 2 w11 (cQ w11 a0 1)) ∧ ((S_Ce_put cs lim w11 ((cQ w11 a0 1).getD 0) (cI M a0 4) x2) ∧ (mbind (F_Ce_put cs w11 ((cQ w11 a0 1).getD 0) (cI M a0 4) x2) (fun w15 => (cOk 1 w15 a0) ∧ ((cOq 2 w15 (cQ w15 a0 2)) ∧ ((S_Ce_put cs lim w15 ((cQ w15 a0 2).getD 0) (cI M a0 4) x3) ∧ (mbind (F_Ce_put cs w15 ((cQ w15 a0 2).getD 0) (cI M a0 4) x3) (fun w19 => (cOk 1 w19 a0) ∧ ((cOk 1 w19 a0) ∧ (S_Ty_numberOf_77 cs lim n (cP 1 w19 a0 4 (.int ((cI w19 a0 4) + 1))) a0 x1 x2 x3 w3 (cI M a0 4) 3)))))))))))))))) else (True))) else (True))))
set_option maxRecDepth 100000 in
set_option maxHeartbeats 4000000 in
theorem cc_Ty_numberOf (l : Launch) (hf : l.flags = pinnedFlags ++ [noTraceFlag]) (D : va_G) (cs : Nat → ClassId) (B : Nat) (dE : Nat × Nat) (lim : Nat × Nat) (n : Nat) (M : gMem) (a0 : Nat) (x1 : Int32) (x2 : Int32) (x3 : Int32) (hS : S_Ty_numberOf cs lim n M a0 x1 x2 x3) : cMet l y_Ty_numberOf (Cond.code y_Ty_numberOf c_Ty_numberOf 7 (some .int)) (4) (129) D cs B dE (gA B) lim [.ref a0, .int x1, .int x2, .int x3] M (fun x M' => x = .inl (some (.int ((F_Ty_numberOf cs n M a0 x1 x2 x3).1))) ∧ M' = (F_Ty_numberOf cs n M a0 x1 x2 x3).2) := by
  refine cMet.ofW (by decide) (Nat.le_of_ble_eq_true rfl) (lv0 := [(0, .ref a0), (1, .int x1), (2, .int x2), (3, .int x3)]) rfl ?_
  intro p e s m args below meth c C hE hR0 hle hr hlocks hex hn
  generalize hF : F_Ty_numberOf cs n M a0 x1 x2 x3 = Fv
  unfold F_Ty_numberOf at hF
  unfold S_Ty_numberOf at hS
  refine g_aload_n C d_Ty_numberOf_0 rfl ?_
  refine g_iload_n C d_Ty_numberOf_1 rfl ?_
  refine g_iload_n C d_Ty_numberOf_2 rfl ?_
  refine g_iload_n C d_Ty_numberOf_3 rfl ?_
  obtain ⟨ho1, hS⟩ := hS
  obtain ⟨hs2, hS⟩ := hS
  refine c_call (av := [.ref a0, .int x1, .int x2, .int x3]) (rest := []) C hE (fun _ h => h.elim) ⟨rfl, rfl⟩ hle (cc_Ty_find l hf D cs B dE lim n _ a0 x1 x2 x3 hs2) (fun _ h => h.elim) kd_Ty_find ki_Ty (Nat.le_of_ble_eq_true rfl) (Nat.le_of_ble_eq_true rfl) d_Ty_numberOf_4 (Nat.le_of_ble_eq_true rfl) (c_fV (n := 3) (ci := 1) C hE.1 rfl km_Ty_35 kv_Ty_find kl_Ty_find kd_Ty_find ⟨by decide, by decide, by decide⟩ rfl rfl d_Ty_numberOf_4 ho1) (fun v1 M1 hv hle => ?_) (fun E1 M1 hv hle => ?_)
  · rw [mbind_eq] at hF hS
    obtain ⟨hx, hM1⟩ := hv
    have hM2 := hM1.symm
    subst hM2
    generalize hq_w3 : F_Ty_find cs n M a0 x1 x2 x3 = w3 at hF hS hx hle ⊢
    cases hx
    refine GW.eqs (st' := [.int w3]) rfl ?_
    refine g_istore (lv' := [(4, .int w3), (0, .ref a0), (1, .int x1), (2, .int x2), (3, .int x3)]) C d_Ty_numberOf_7 (by decide) rfl ?_
    refine g_iload C d_Ty_numberOf_9 rfl ?_
    refine g_iconst (v := (-1)) C d_Ty_numberOf_11 (by decide) ?_
    refine g_icmp_ne C 25 d_Ty_numberOf_12 (by decide) (fun hc4 => ?_) (fun hc4 => ?_)
    · rw [if_neg hc4] at hF hS
      refine g_iload C d_Ty_numberOf_25 rfl ?_
      refine GW.more (A' := gA B) (fun _ h => h.elim) ?_
      exact c_iret (M := M) C hr hlocks hle d_Ty_numberOf_27 (by rw [← hF]; exact ⟨rfl, rfl⟩)
    · rw [if_pos hc4] at hF hS
      refine g_aload_n C d_Ty_numberOf_15 rfl ?_
      obtain ⟨ho5, hS⟩ := hS
      refine c_geti C hE.1 (ci := 1) i_Ty rfl 4 (by decide) (by decide) (by decide) kf_Ty_27 d_Ty_numberOf_16 ho5 ?_
      refine g_sipush (v := 512) C d_Ty_numberOf_19 (by decide) ?_
      refine g_icmp_lt C 28 d_Ty_numberOf_22 (by decide) (fun hc6 => ?_) (fun hc6 => ?_)
      · rw [if_pos hc6] at hF hS
        refine g_aload_n C d_Ty_numberOf_28 rfl ?_
        obtain ⟨ho7, hS⟩ := hS
        refine c_geti C hE.1 (ci := 1) i_Ty rfl 4 (by decide) (by decide) (by decide) kf_Ty_27 d_Ty_numberOf_29 ho7 ?_
        refine g_istore (lv' := [(5, .int (cI M a0 4)), (4, .int w3), (0, .ref a0), (1, .int x1), (2, .int x2), (3, .int x3)]) C d_Ty_numberOf_32 (by decide) rfl ?_
        refine g_aload_n C d_Ty_numberOf_34 rfl ?_
        obtain ⟨ho8, hS⟩ := hS
        refine c_getq C hE.1 (ci := 1) i_Ty rfl 0 (by decide) (by decide) (by decide) kf_Ty_14 d_Ty_numberOf_35 ho8 ?_
        refine g_iload C d_Ty_numberOf_38 rfl ?_
        refine g_iload_n C d_Ty_numberOf_40 rfl ?_
        refine GW.more (A' := gA B) (fun _ h => h.elim) ?_
        obtain ⟨ho9, hS⟩ := hS
        refine GW.known3 (a := (cQ M a0 0).getD 0) (cOq.at ho9).1 ?_
        obtain ⟨hs10, hS⟩ := hS
        refine c_call (av := [.ref ((cQ M a0 0).getD 0), .int (cI M a0 4), .int x1]) (rest := []) C hE (fun _ h => h) ⟨rfl, rfl⟩ hle (cc_Ce_put l hf D cs B dE lim _ ((cQ M a0 0).getD 0) (cI M a0 4) x1 hs10) (fun _ h => h) kd_Ce_put ki_Ce (Nat.le_of_ble_eq_true rfl) (Nat.le_of_ble_eq_true rfl) d_Ty_numberOf_41 (Nat.le_of_ble_eq_true rfl) (c_fV (n := 2) (ci := 2) C hE.1 rfl km_Ty_39 kv_Ce_put kl_Ce_put kd_Ce_put ⟨by decide, by decide, by decide⟩ rfl rfl d_Ty_numberOf_41 (cOq.at ho9).2) (fun v1 M1 hv hle => ?_) (fun E1 M1 hv hle => ?_)
        · rw [mbind_eq] at hF hS
          obtain ⟨hx, hM1⟩ := hv
          have hM2 := hM1.symm
          subst hM2
          generalize hq_w11 : F_Ce_put cs M ((cQ M a0 0).getD 0) (cI M a0 4) x1 = w11 at hF hS hx hle ⊢
          cases hx
          refine GW.eqs (st' := []) rfl ?_
          refine g_aload_n C d_Ty_numberOf_44 rfl ?_
          obtain ⟨ho12, hS⟩ := hS
          refine c_getq C hE.1 (ci := 1) i_Ty rfl 1 (by decide) (by decide) (by decide) kf_Ty_18 d_Ty_numberOf_45 ho12 ?_
          refine g_iload C d_Ty_numberOf_48 rfl ?_
          refine g_iload_n C d_Ty_numberOf_50 rfl ?_
          obtain ⟨ho13, hS⟩ := hS
          refine GW.known3 (a := (cQ w11 a0 1).getD 0) (cOq.at ho13).1 ?_
          obtain ⟨hs14, hS⟩ := hS
          refine c_call (av := [.ref ((cQ w11 a0 1).getD 0), .int (cI M a0 4), .int x2]) (rest := []) C hE (fun _ h => h) ⟨rfl, rfl⟩ hle (cc_Ce_put l hf D cs B dE lim _ ((cQ w11 a0 1).getD 0) (cI M a0 4) x2 hs14) (fun _ h => h) kd_Ce_put ki_Ce (Nat.le_of_ble_eq_true rfl) (Nat.le_of_ble_eq_true rfl) d_Ty_numberOf_51 (Nat.le_of_ble_eq_true rfl) (c_fV (n := 2) (ci := 2) C hE.1 rfl km_Ty_39 kv_Ce_put kl_Ce_put kd_Ce_put ⟨by decide, by decide, by decide⟩ rfl rfl d_Ty_numberOf_51 (cOq.at ho13).2) (fun v1 M1 hv hle => ?_) (fun E1 M1 hv hle => ?_)
          · rw [mbind_eq] at hF hS
            obtain ⟨hx, hM1⟩ := hv
            have hM2 := hM1.symm
            subst hM2
            generalize hq_w15 : F_Ce_put cs w11 ((cQ w11 a0 1).getD 0) (cI M a0 4) x2 = w15 at hF hS hx hle ⊢
            cases hx
            refine GW.eqs (st' := []) rfl ?_
            refine g_aload_n C d_Ty_numberOf_54 rfl ?_
            obtain ⟨ho16, hS⟩ := hS
            refine c_getq C hE.1 (ci := 1) i_Ty rfl 2 (by decide) (by decide) (by decide) kf_Ty_21 d_Ty_numberOf_55 ho16 ?_
            refine g_iload C d_Ty_numberOf_58 rfl ?_
            refine g_iload_n C d_Ty_numberOf_60 rfl ?_
            obtain ⟨ho17, hS⟩ := hS
            refine GW.known3 (a := (cQ w15 a0 2).getD 0) (cOq.at ho17).1 ?_
            obtain ⟨hs18, hS⟩ := hS
            refine c_call (av := [.ref ((cQ w15 a0 2).getD 0), .int (cI M a0 4), .int x3]) (rest := []) C hE (fun _ h => h) ⟨rfl, rfl⟩ hle (cc_Ce_put l hf D cs B dE lim _ ((cQ w15 a0 2).getD 0) (cI M a0 4) x3 hs18) (fun _ h => h) kd_Ce_put ki_Ce (Nat.le_of_ble_eq_true rfl) (Nat.le_of_ble_eq_true rfl) d_Ty_numberOf_61 (Nat.le_of_ble_eq_true rfl) (c_fV (n := 2) (ci := 2) C hE.1 rfl km_Ty_39 kv_Ce_put kl_Ce_put kd_Ce_put ⟨by decide, by decide, by decide⟩ rfl rfl d_Ty_numberOf_61 (cOq.at ho17).2) (fun v1 M1 hv hle => ?_) (fun E1 M1 hv hle => ?_)
            · rw [mbind_eq] at hF hS
              obtain ⟨hx, hM1⟩ := hv
              have hM2 := hM1.symm
              subst hM2
              generalize hq_w19 : F_Ce_put cs w15 ((cQ w15 a0 2).getD 0) (cI M a0 4) x3 = w19 at hF hS hx hle ⊢
              cases hx
              refine GW.eqs (st' := []) rfl ?_
              refine g_aload_n C d_Ty_numberOf_64 rfl ?_
              refine g_dup C d_Ty_numberOf_65 rfl ?_
              obtain ⟨ho20, hS⟩ := hS
              refine c_geti C hE.1 (ci := 1) i_Ty rfl 4 (by decide) (by decide) (by decide) kf_Ty_27 d_Ty_numberOf_66 ho20 ?_
              refine g_iconst (v := 1) C d_Ty_numberOf_69 (by decide) ?_
              refine g_iadd C d_Ty_numberOf_70 ?_
              obtain ⟨ho21, hS⟩ := hS
              refine k_put (M0 := M) (M := w19) C hE.1 (ci := 1) i_Ty rfl 4 (by decide) (by decide) kf_Ty_27 t_Ty t_Ty_ok n_Ty rfl (nf_i _) d_Ty_numberOf_71 ho21 ?_
              replace hle := cLe.cP (ci := 1) (a := a0) (k := 4) (v := .int ((cI w19 a0 4) + 1)) hle
              refine g_iconst (v := 3) C d_Ty_numberOf_74 (by decide) ?_
              refine g_istore (lv' := [(6, .int 3), (5, .int (cI M a0 4)), (4, .int w3), (0, .ref a0), (1, .int x1), (2, .int x2), (3, .int x3)]) C d_Ty_numberOf_75 (by decide) rfl ?_
              refine GW.subl [3, 4, 5, 6, 2, 1, 0] rfl ?_
              exact w_Ty_numberOf_77 C hE hf hr hlocks hex hn n (cP 1 w19 a0 4 (.int ((cI w19 a0 4) + 1))) a0 x1 x2 x3 w3 (cI M a0 4) 3 Fv hle hS hF
            · cases hv.1
          · cases hv.1
        · cases hv.1
      · rw [if_neg hc6] at hF hS
        refine g_iload C d_Ty_numberOf_25 rfl ?_
        refine GW.more (A' := gA B) (fun _ h => h.elim) ?_
        exact c_iret (M := M) C hr hlocks hle d_Ty_numberOf_27 (by rw [← hF]; exact ⟨rfl, rfl⟩)
  · cases hv.1
