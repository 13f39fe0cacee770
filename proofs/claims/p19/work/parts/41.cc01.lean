def F_No_init (cs : Nat → ClassId) (M : gMem) (a0 : Nat) (x1 : Int32) : gMem := cP 4 (cP 4 (cP 4 (cP 4 (cP 4 (cP 4 (cP 4 (cP 4 M a0 2 (.int (-1))) a0 3 (.int (-1))) a0 4 (.int (-1))) a0 5 (.int (-1))) a0 6 (.int (-1))) a0 9 (.int 1)) a0 10 (.int 1)) a0 0 (.int x1)
def S_No_init (cs : Nat → ClassId) (lim : Nat × Nat) (M : gMem) (a0 : Nat) (x1 : Int32) : Prop := (cOk 4 M a0) ∧ ((cOk 4 (cP 4 M a0 2 (.int (-1))) a0) ∧ ((cOk 4 (cP 4 (cP 4 M a0 2 (.int (-1))) a0 3 (.int (-1))) a0) ∧ ((cOk 4 (cP 4 (cP 4 (cP 4 M a0 2 (.int (-1))) a0 3 (.int (-1))) a0 4 (.int (-1))) a0) ∧ ((cOk 4 (cP 4 (cP 4 (cP 4 (cP 4 M a0 2 (.int (-1))) a0 3 (.int (-1))) a0 4 (.int (-1))) a0 5 (.int (-1))) a0) ∧ ((cOk 4 (cP 4 (cP 4 (cP 4 (cP 4 (cP 4 M a0 2 (.int (-1))) a0 3 (.int (-1))) a0 4 (.int (-1))) a0 5 (.int (-1))) a0 6 (.int (-1))) a0) ∧ ((cOk 4 (cP 4 (cP 4 (cP 4 (cP 4 (cP 4 (cP 4 M a0 2 (.int (-1))) a0 3 (.int (-1))) a0 4 (.int (-1))) a0 5 (.int (-1))) a0 6 (.int (-1))) a0 9 (.int 1)) a0) ∧ ((cOk 4 (cP 4 (cP 4 (cP 4 (cP 4 (cP 4 (cP 4 (cP 4 M a0 2 (.int (-1))) a0 3 (.int (-1))) a0 4 (.int (-1))) a0 5 (.int (-1))) a0 6 (.int (-1))) a0 9 (.int 1)) a0 10 (.int 1)) a0) ∧ (True))))))))
set_option maxRecDepth 100000 in
set_option maxHeartbeats 4000000 in
theorem cc_No_init (l : Launch) (hf : l.flags = pinnedFlags ++ [noTraceFlag]) (D : va_G) (cs : Nat → ClassId) (B : Nat) (dE : Nat × Nat) (lim : Nat × Nat) (M : gMem) (a0 : Nat) (x1 : Int32) (hS : S_No_init cs lim M a0 x1) : cMet l y_No_init (Cond.code y_No_init c_No_init 2 none) (1) (20) D cs B dE (gA B) lim [.ref a0, .int x1] M (fun x M' => x = .inl none ∧ M' = (F_No_init cs M a0 x1)) := by
  refine cMet.ofW (by decide) (Nat.le_of_ble_eq_true rfl) (lv0 := [(0, .ref a0), (1, .int x1)]) rfl ?_
  intro p e s m args below meth c C hE hR0 hle hr hlocks hex hn
  generalize hF : F_No_init cs M a0 x1 = Fv
  unfold F_No_init at hF
  unfold S_No_init at hS
  refine g_aload_n C d_No_init_0 rfl ?_
  refine g_objInit C km_No_3 kv_Ob_init kd_Ob_init d_No_init_1 (Nat.le_of_ble_eq_true rfl) (Nat.le_of_ble_eq_true rfl) ?_
  refine g_aload_n C d_No_init_4 rfl ?_
  refine g_iconst (v := (-1)) C d_No_init_5 (by decide) ?_
  refine GW.more (A' := gA B) (fun _ h => h.elim) ?_
  obtain ⟨ho1, hS⟩ := hS
  refine k_put (M0 := M) (M := M) C hE.1 (ci := 4) i_No rfl 2 (by decide) (by decide) kf_No_9 t_No t_No_ok n_No rfl (nf_i _) d_No_init_6 ho1 ?_
  replace hle := cLe.cP (ci := 4) (a := a0) (k := 2) (v := .int (-1)) hle
  refine g_aload_n C d_No_init_9 rfl ?_
  refine g_iconst (v := (-1)) C d_No_init_10 (by decide) ?_
  obtain ⟨ho2, hS⟩ := hS
  refine k_put (M0 := M) (M := cP 4 M a0 2 (.int (-1))) C hE.1 (ci := 4) i_No rfl 3 (by decide) (by decide) kf_No_15 t_No t_No_ok n_No rfl (nf_i _) d_No_init_11 ho2 ?_
  replace hle := cLe.cP (ci := 4) (a := a0) (k := 3) (v := .int (-1)) hle
  refine g_aload_n C d_No_init_14 rfl ?_
  refine g_iconst (v := (-1)) C d_No_init_15 (by decide) ?_
  obtain ⟨ho3, hS⟩ := hS
  refine k_put (M0 := M) (M := cP 4 (cP 4 M a0 2 (.int (-1))) a0 3 (.int (-1))) C hE.1 (ci := 4) i_No rfl 4 (by decide) (by decide) kf_No_18 t_No t_No_ok n_No rfl (nf_i _) d_No_init_16 ho3 ?_
  replace hle := cLe.cP (ci := 4) (a := a0) (k := 4) (v := .int (-1)) hle
  refine g_aload_n C d_No_init_19 rfl ?_
  refine g_iconst (v := (-1)) C d_No_init_20 (by decide) ?_
  obtain ⟨ho4, hS⟩ := hS
  refine k_put (M0 := M) (M := cP 4 (cP 4 (cP 4 M a0 2 (.int (-1))) a0 3 (.int (-1))) a0 4 (.int (-1))) C hE.1 (ci := 4) i_No rfl 5 (by decide) (by decide) kf_No_21 t_No t_No_ok n_No rfl (nf_i _) d_No_init_21 ho4 ?_
  replace hle := cLe.cP (ci := 4) (a := a0) (k := 5) (v := .int (-1)) hle
  refine g_aload_n C d_No_init_24 rfl ?_
  refine g_iconst (v := (-1)) C d_No_init_25 (by decide) ?_
  obtain ⟨ho5, hS⟩ := hS
  refine k_put (M0 := M) (M := cP 4 (cP 4 (cP 4 (cP 4 M a0 2 (.int (-1))) a0 3 (.int (-1))) a0 4 (.int (-1))) a0 5 (.int (-1))) C hE.1 (ci := 4) i_No rfl 6 (by decide) (by decide) kf_No_24 t_No t_No_ok n_No rfl (nf_i _) d_No_init_26 ho5 ?_
  replace hle := cLe.cP (ci := 4) (a := a0) (k := 6) (v := .int (-1)) hle
  refine g_aload_n C d_No_init_29 rfl ?_
  refine g_iconst (v := 1) C d_No_init_30 (by decide) ?_
  obtain ⟨ho6, hS⟩ := hS
  refine k_put (M0 := M) (M := cP 4 (cP 4 (cP 4 (cP 4 (cP 4 M a0 2 (.int (-1))) a0 3 (.int (-1))) a0 4 (.int (-1))) a0 5 (.int (-1))) a0 6 (.int (-1))) C hE.1 (ci := 4) i_No rfl 9 (by decide) (by decide) kf_No_27 t_No t_No_ok n_No rfl (nf_i _) d_No_init_31 ho6 ?_
  replace hle := cLe.cP (ci := 4) (a := a0) (k := 9) (v := .int 1) hle
  refine g_aload_n C d_No_init_34 rfl ?_
  refine g_iconst (v := 1) C d_No_init_35 (by decide) ?_
  obtain ⟨ho7, hS⟩ := hS
  refine k_put (M0 := M) (M := cP 4 (cP 4 (cP 4 (cP 4 (cP 4 (cP 4 M a0 2 (.int (-1))) a0 3 (.int (-1))) a0 4 (.int (-1))) a0 5 (.int (-1))) a0 6 (.int (-1))) a0 9 (.int 1)) C hE.1 (ci := 4) i_No rfl 10 (by decide) (by decide) kf_No_30 t_No t_No_ok n_No rfl (nf_i _) d_No_init_36 ho7 ?_
  replace hle := cLe.cP (ci := 4) (a := a0) (k := 10) (v := .int 1) hle
  refine g_aload_n C d_No_init_39 rfl ?_
  refine g_iload_n C d_No_init_40 rfl ?_
  obtain ⟨ho8, hS⟩ := hS
  refine k_putF (M0 := M) (M := cP 4 (cP 4 (cP 4 (cP 4 (cP 4 (cP 4 (cP 4 M a0 2 (.int (-1))) a0 3 (.int (-1))) a0 4 (.int (-1))) a0 5 (.int (-1))) a0 6 (.int (-1))) a0 9 (.int 1)) a0 10 (.int 1)) C hE.1 (ci := 4) i_No rfl 0 (by decide) (by decide) kf_No_33 t_No t_No_ok n_No rfl hn rfl (nf_i _) d_No_init_41 ho8 ?_
  replace hle := cLe.cP (ci := 4) (a := a0) (k := 0) (v := .int x1) hle
  exact c_vret (M := cP 4 (cP 4 (cP 4 (cP 4 (cP 4 (cP 4 (cP 4 (cP 4 M a0 2 (.int (-1))) a0 3 (.int (-1))) a0 4 (.int (-1))) a0 5 (.int (-1))) a0 6 (.int (-1))) a0 9 (.int 1)) a0 10 (.int 1)) a0 0 (.int x1)) C hr hlocks hle d_No_init_44 (by rw [← hF]; exact ⟨rfl, rfl⟩)
def F_Cl_init (cs : Nat → ClassId) (M : gMem) (a0 : Nat) (x1 : Int32) (x2 : Int32) (x3 : Int32) (x4 : Int32) : gMem := cP 5 (cP 5 (cP 5 (cP 5 M a0 0 (.int x1)) a0 1 (.int x2)) a0 2 (.int x3)) a0 3 (.int x4)
def S_Cl_init (cs : Nat → ClassId) (lim : Nat × Nat) (M : gMem) (a0 : Nat) (x1 : Int32) (x2 : Int32) (x3 : Int32) (x4 : Int32) : Prop := (cOk 5 M a0) ∧ ((cOk 5 (cP 5 M a0 0 (.int x1)) a0) ∧ ((cOk 5 (cP 5 (cP 5 M a0 0 (.int x1)) a0 1 (.int x2)) a0) ∧ ((cOk 5 (cP 5 (cP 5 (cP 5 M a0 0 (.int x1)) a0 1 (.int x2)) a0 2 (.int x3)) a0) ∧ (True))))
set_option maxRecDepth 100000 in
set_option maxHeartbeats 4000000 in
theorem cc_Cl_init (l : Launch) (hf : l.flags = pinnedFlags ++ [noTraceFlag]) (D : va_G) (cs : Nat → ClassId) (B : Nat) (dE : Nat × Nat) (lim : Nat × Nat) (M : gMem) (a0 : Nat) (x1 : Int32) (x2 : Int32) (x3 : Int32) (x4 : Int32) (hS : S_Cl_init cs lim M a0 x1 x2 x3 x4) : cMet l y_Cl_init (Cond.code y_Cl_init c_Cl_init 5 none) (1) (20) D cs B dE (gA B) lim [.ref a0, .int x1, .int x2, .int x3, .int x4] M (fun x M' => x = .inl none ∧ M' = (F_Cl_init cs M a0 x1 x2 x3 x4)) := by
  refine cMet.ofW (by decide) (Nat.le_of_ble_eq_true rfl) (lv0 := [(0, .ref a0), (1, .int x1), (2, .int x2), (3, .int x3), (4, .int x4)]) rfl ?_
  intro p e s m args below meth c C hE hR0 hle hr hlocks hex hn
  generalize hF : F_Cl_init cs M a0 x1 x2 x3 x4 = Fv
  unfold F_Cl_init at hF
  unfold S_Cl_init at hS
  refine g_aload_n C d_Cl_init_0 rfl ?_
  refine g_objInit C km_Cl_1 kv_Ob_init kd_Ob_init d_Cl_init_1 (Nat.le_of_ble_eq_true rfl) (Nat.le_of_ble_eq_true rfl) ?_
  refine g_aload_n C d_Cl_init_4 rfl ?_
  refine g_iload_n C d_Cl_init_5 rfl ?_
  refine GW.more (A' := gA B) (fun _ h => h.elim) ?_
  obtain ⟨ho1, hS⟩ := hS
  refine k_putF (M0 := M) (M := M) C hE.1 (ci := 5) i_Cl rfl 0 (by decide) (by decide) kf_Cl_7 t_Cl t_Cl_ok n_Cl rfl hn rfl (nf_i _) d_Cl_init_6 ho1 ?_
  replace hle := cLe.cP (ci := 5) (a := a0) (k := 0) (v := .int x1) hle
  refine g_aload_n C d_Cl_init_9 rfl ?_
  refine g_iload_n C d_Cl_init_10 rfl ?_
  obtain ⟨ho2, hS⟩ := hS
  refine k_putF (M0 := M) (M := cP 5 M a0 0 (.int x1)) C hE.1 (ci := 5) i_Cl rfl 1 (by decide) (by decide) kf_Cl_13 t_Cl t_Cl_ok n_Cl rfl hn rfl (nf_i _) d_Cl_init_11 ho2 ?_
  replace hle := cLe.cP (ci := 5) (a := a0) (k := 1) (v := .int x2) hle
  refine g_aload_n C d_Cl_init_14 rfl ?_
  refine g_iload_n C d_Cl_init_15 rfl ?_
  obtain ⟨ho3, hS⟩ := hS
  refine k_putF (M0 := M) (M := cP 5 (cP 5 M a0 0 (.int x1)) a0 1 (.int x2)) C hE.1 (ci := 5) i_Cl rfl 2 (by decide) (by decide) kf_Cl_16 t_Cl t_Cl_ok n_Cl rfl hn rfl (nf_i _) d_Cl_init_16 ho3 ?_
  replace hle := cLe.cP (ci := 5) (a := a0) (k := 2) (v := .int x3) hle
  refine g_aload_n C d_Cl_init_19 rfl ?_
  refine g_iload C d_Cl_init_20 rfl ?_
  obtain ⟨ho4, hS⟩ := hS
  refine k_putF (M0 := M) (M := cP 5 (cP 5 (cP 5 M a0 0 (.int x1)) a0 1 (.int x2)) a0 2 (.int x3)) C hE.1 (ci := 5) i_Cl rfl 3 (by decide) (by decide) kf_Cl_19 t_Cl t_Cl_ok n_Cl rfl hn rfl (nf_i _) d_Cl_init_22 ho4 ?_
  replace hle := cLe.cP (ci := 5) (a := a0) (k := 3) (v := .int x4) hle
  exact c_vret (M := cP 5 (cP 5 (cP 5 (cP 5 M a0 0 (.int x1)) a0 1 (.int x2)) a0 2 (.int x3)) a0 3 (.int x4)) C hr hlocks hle d_Cl_init_25 (by rw [← hF]; exact ⟨rfl, rfl⟩)
def F_Ns_init (cs : Nat → ClassId) (M : gMem) (a0 : Nat) : gMem := mbind (F_No_init cs (gnw (cP 3 (gnw (cP 3 (gnw M (1, .inl (cs 3, (200 : Int32).toNatClampNeg, .inr (.inr (.inr (.inr (fun _ => none)))))) (200 : Int32).toNatClampNeg) a0 0 (va_rf (some M.2.1))) (1, .inl (cs 4, (40 : Int32).toNatClampNeg, .inr (.inr (.inr (.inr (fun _ => none)))))) (40 : Int32).toNatClampNeg) a0 1 (va_rf (some ((cP 3 (gnw M (1, .inl (cs 3, (200 : Int32).toNatClampNeg, .inr (.inr (.inr (.inr (fun _ => none)))))) (200 : Int32).toNatClampNeg) a0 0 (va_rf (some M.2.1))).2.1)))) (1, .inr (4, [.int 0, .int 0, .int 0, .int 0, .int 0, .int 0, .int 0, .int 0, .int 0, .int 0, .int 0])) 11) ((cP 3 (gnw (cP 3 (gnw M (1, .inl (cs 3, (200 : Int32).toNatClampNeg, .inr (.inr (.inr (.inr (fun _ => none)))))) (200 : Int32).toNatClampNeg) a0 0 (va_rf (some M.2.1))) (1, .inl (cs 4, (40 : Int32).toNatClampNeg, .inr (.inr (.inr (.inr (fun _ => none)))))) (40 : Int32).toNatClampNeg) a0 1 (va_rf (some ((cP 3 (gnw M (1, .inl (cs 3, (200 : Int32).toNatClampNeg, .inr (.inr (.inr (.inr (fun _ => none)))))) (200 : Int32).toNatClampNeg) a0 0 (va_rf (some M.2.1))).2.1)))).2.1) 2) (fun w9 => mbind (F_Cl_init cs (gnw (cP 3 w9 a0 2 (va_rf (some ((cP 3 (gnw (cP 3 (gnw M (1, .inl (cs 3, (200 : Int32).toNatClampNeg, .inr (.inr (.inr (.inr (fun _ => none)))))) (200 : Int32).toNatClampNeg) a0 0 (va_rf (some M.2.1))) (1, .inl (cs 4, (40 : Int32).toNatClampNeg, .inr (.inr (.inr (.inr (fun _ => none)))))) (40 : Int32).toNatClampNeg) a0 1 (va_rf (some ((cP 3 (gnw M (1, .inl (cs 3, (200 : Int32).toNatClampNeg, .inr (.inr (.inr (.inr (fun _ => none)))))) (200 : Int32).toNatClampNeg) a0 0 (va_rf (some M.2.1))).2.1)))).2.1)))) (1, .inr (5, [.int 0, .int 0, .int 0, .int 0])) 4) ((cP 3 w9 a0 2 (va_rf (some ((cP 3 (gnw (cP 3 (gnw M (1, .inl (cs 3, (200 : Int32).toNatClampNeg, .inr (.inr (.inr (.inr (fun _ => none)))))) (200 : Int32).toNatClampNeg) a0 0 (va_rf (some M.2.1))) (1, .inl (cs 4, (40 : Int32).toNatClampNeg, .inr (.inr (.inr (.inr (fun _ => none)))))) (40 : Int32).toNatClampNeg) a0 1 (va_rf (some ((cP 3 (gnw M (1, .inl (cs 3, (200 : Int32).toNatClampNeg, .inr (.inr (.inr (.inr (fun _ => none)))))) (200 : Int32).toNatClampNeg) a0 0 (va_rf (some M.2.1))).2.1)))).2.1)))).2.1) 0 0 0 (-1)) (fun w13 => cP 3 w13 a0 3 (va_rf (some ((cP 3 w9 a0 2 (va_rf (some ((cP 3 (gnw (cP 3 (gnw M (1, .inl (cs 3, (200 : Int32).toNatClampNeg, .inr (.inr (.inr (.inr (fun _ => none)))))) (200 : Int32).toNatClampNeg) a0 0 (va_rf (some M.2.1))) (1, .inl (cs 4, (40 : Int32).toNatClampNeg, .inr (.inr (.inr (.inr (fun _ => none)))))) (40 : Int32).toNatClampNeg) a0 1 (va_rf (some ((cP 3 (gnw M (1, .inl (cs 3, (200 : Int32).toNatClampNeg, .inr (.inr (.inr (.inr (fun _ => none)))))) (200 : Int32).toNatClampNeg) a0 0 (va_rf (some M.2.1))).2.1)))).2.1)))).2.1)))))
def S_Ns_init (cs : Nat → ClassId) (lim : Nat × Nat) (M : gMem) (a0 : Nat) : Prop := ((¬ (200 : Int32) < 0 ∧ (200 : Int32).toNatClampNeg * 4 ≤ 536870912) ∧ M.2.1 + 1 ≤ lim.1 ∧ M.2.2 + (200 : Int32).toNatClampNeg ≤ lim.2) ∧ ((cOk 3 (gnw M (1, .inl (cs 3, (200 : Int32).toNatClampNeg, .inr (.inr (.inr (.inr (fun _ => none)))))) (200 : Int32).toNatClampNeg) a0) ∧ (((¬ (40 : Int32) < 0 ∧ (40 : Int32).toNatClampNeg * 4 ≤ 536870912) ∧ (cP 3 (gnw M (1, .inl (cs 3, (200 : Int32).toNatClampNeg, .inr (.inr (.inr (.inr (fun _ => none)))))) (200 : Int32).toNatClampNeg) a0 0 (va_rf (some M.2.1))).2.1 + 1 ≤ lim.1 ∧ (cP 3 (gnw M (1, .inl (cs 3, (200 : Int32).toNatClampNeg, .inr (.inr (.inr (.inr (fun _ => none)))))) (200 : Int32).toNatClampNeg) a0 0 (va_rf (some M.2.1))).2.2 + (40 : Int32).toNatClampNeg ≤ lim.2) ∧ ((cOk 3 (gnw (cP 3 (gnw M (1, .inl (cs 3, (200 : Int32).toNatClampNeg, .inr (.inr (.inr (.inr (fun _ => none)))))) (200 : Int32).toNatClampNeg) a0 0 (va_rf (some M.2.1))) (1, .inl (cs 4, (40 : Int32).toNatClampNeg, .inr (.inr (.inr (.inr (fun _ => none)))))) (40 : Int32).toNatClampNeg) a0) ∧ (((cP 3 (gnw (cP 3 (gnw M (1, .inl (cs 3, (200 : Int32).toNatClampNeg, .inr (.inr (.inr (.inr (fun _ => none)))))) (200 : Int32).toNatClampNeg) a0 0 (va_rf (some M.2.1))) (1, .inl (cs 4, (40 : Int32).toNatClampNeg, .inr (.inr (.inr (.inr (fun _ => none)))))) (40 : Int32).toNatClampNeg) a0 1 (va_rf (some ((cP 3 (gnw M (1, .inl (cs 3, (200 : Int32).toNatClampNeg, .inr (.inr (.inr (.inr (fun _ => none)))))) (200 : Int32).toNatClampNeg) a0 0 (va_rf (some M.2.1))).2.1)))).2.1 + 1 ≤ lim.1 ∧ (cP 3 (gnw (cP 3 (gnw M (1, .inl (cs 3, (200 : Int32).toNatClampNeg, .inr (.inr (.inr (.inr (fun _ => none)))))) (200 : Int32).toNatClampNeg) a0 0 (va_rf (some M.2.1))) (1, .inl (cs 4, (40 : Int32).toNatClampNeg, .inr (.inr (.inr (.inr (fun _ => none)))))) (40 : Int32).toNatClampNeg) a0 1 (va_rf (some ((cP 3 (gnw M (1, .inl (cs 3, (200 : Int32).toNatClampNeg, .inr (.inr (.inr (.inr (fun _ => none)))))) (200 : Int32).toNatClampNeg) a0 0 (va_rf (some M.2.1))).2.1)))).2.2 + 11 ≤ lim.2) ∧ ((S_No_init cs lim (gnw (cP 3 (gnw (cP 3 (gnw M (1, .inl (cs 3, (200 : Int32).toNatClampNeg, .inr (.inr (.inr (.inr (fun _ => none)))))) (200 : Int32).toNatClampNeg) a0 0 (va_rf (some M.2.1))) (1, .inl (cs 4, (40 : Int32).toNatClampNeg, .inr (.inr (.inr (.inr (fun _ => none)))))) (40 : Int32).toNatClampNeg) a0 1 (va_rf (some ((cP 3 (gnw M (1, .inl (cs 3, (200 : Int32).toNatClampNeg, .inr (.inr (.inr (.inr (fun _ => none)))))) (200 : Int32).toNatClampNeg) a0 0 (va_rf (some M.2.1))).2.1)))) (1, .inr (4, [.int 0, .int 0, .int 0, .int 0, .int 0, .int 0, .int 0, .int 0, .int 0, .int 0, .int 0])) 11) ((cP 3 (gnw (cP 3 (gnw M (1, .inl (cs 3, (200 : Int32).toNatClampNeg, .inr (.inr (.inr (.inr (fun _ => none)))))) (200 : Int32).toNatClampNeg) a0 0 (va_rf (some M.2.1))) (1, .inl (cs 4, (40 : Int32).toNatClampNeg, .inr (.inr (.inr (.inr (fun _ => none)))))) (40 : Int32).toNatClampNeg) a0 1 (va_rf (some ((cP 3 (gnw M (1, .inl (cs 3, (200 : Int32).toNatClampNeg, .inr (.inr (.inr (.inr (fun _ => none)))))) (200 : Int32).toNatClampNeg) a0 0 (va_rf (some M.2.1))).2.1)))).2.1) 2) ∧ (mbind (F_No_init cs (gnw (cP 3 (gnw (cP 3 (gnw M (1, .inl (cs 3, (200 : Int32).toNatClampNeg, .inr (.inr (.inr (.inr (fun _ => none)))))) (200 : Int32).toNatClampNeg) a0 0 (va_rf (some M.2.1))) (1, .inl (cs 4, (40 : Int32).toNatClampNeg, .inr (.inr (.inr (.inr (fun _ => none)))))) (40 : Int32).toNatClampNeg) a0 1 (va_rf (some ((cP 3 (gnw M (1, .inl (cs 3, (200 : Int32).toNatClampNeg, .inr (.inr (.inr (.inr (fun _ => none)))))) (200 : Int32).toNatClampNeg) a0 0 (va_rf (some M.2.1))).2.1)))) (1, .inr (4, [.int 0, .int 0, .int 0, .int 0, .int 0, .int 0, .int 0, .int 0, .int 0, .int 0, .int 0])) 11) ((cP 3 (gnw (cP 3 (gnw M (1, .inl (cs 3, (200 : Int32).toNatClampNeg, .inr (.inr (.inr (.inr (fun _ => none)))))) (200 : Int32).toNatClampNeg) a0 0 (va_rf (some M.2.1))) (1, .inl (cs 4, (40 : Int32).toNatClampNeg, .inr (.inr (.inr (.inr (fun _ => none)))))) (40 : Int32).toNatClampNeg) a0 1 (va_rf (some ((cP 3 (gnw M (1, .inl (cs 3, (200 : Int32).toNatClampNeg, .inr (.inr (.inr (.inr (fun _ => none)))))) (200 : Int32).toNatClampNeg) a0 0 (va_rf (some M.2.1))).2.1)))).2.1) 2) (fun w9 => (cOk 3 w9 a0) ∧ (((cP 3 w9 a0 2 (va_rf (some ((cP 3 (gnw (cP 3 (gnw M (1, .inl (cs 3, (200 : Int32).toNatClampNeg, .inr (.inr (.inr (.inr (fun _ => none)))))) (200 : Int32).toNatClampNeg) a0 0 (va_rf (some M.2.1))) (1, .inl (cs 4, (40 : Int32).toNatClampNeg, .inr (.inr (.inr (.inr (fun _ => none)))))) (40 : Int32).toNatClampNeg) a0 1 (va_rf (some ((cP 3 (gnw M (1, .inl (cs 3, (200 : Int32).toNatClampNeg, .inr (.inr (.inr (.inr (fun _ => none)))))) (200 : Int32).toNatClampNeg) a0 0 (va_rf (some M.2.1))).2.1)))).2.1)))).2.1 + 1 ≤ lim.1 ∧ (cP 3 w9 a0 2 (va_rf (some ((cP 3 (gnw (cP 3 (gnw M (1, .inl (cs 3, (200 : Int32).toNatClampNeg, .inr (.inr (.inr (.inr (fun _ => none)))))) (200 : Int32).toNatClampNeg) a0 0 (va_rf (some M.2.1))) (1, .inl (cs 4, (40 : Int32).toNatClampNeg, .inr (.inr (.inr (.inr (fun _ => none)))))) (40 : Int32).toNatClampNeg) a0 1 (va_rf (some ((cP 3 (gnw M (1, .inl (cs 3, (200 : Int32).toNatClampNeg, .inr (.inr (.inr (.inr (fun _ => none)))))) (200 : Int32).toNatClampNeg) a0 0 (va_rf (some M.2.1))).2.1)))).2.1)))).2.2 + 4 ≤ lim.2) ∧ ((S_Cl_init cs lim (gnw (cP 3 w9 a0 2 (va_rf (some ((cP 3 (gnw (cP 3 (gnw M (1, .inl (cs 3, (200 : Int32).toNatClampNeg, .inr (.inr (.inr (.inr (fun _ => none)))))) (200 : Int32).toNatClampNeg) a0 0 (va_rf (some M.2.1))) (1, .inl (cs 4, (40 : Int32).toNatClampNeg, .inr (.inr (.inr (.inr (fun _ => none)))))) (40 : Int32).toNatClampNeg) a0 1 (va_rf (some ((cP 3 (gnw M (1, .inl (cs 3, (200 : Int32).toNatClampNeg, .inr (.inr (.inr (.inr (fun _ => none)))))) (200 : Int32).toNatClampNeg) a0 0 (va_rf (some M.2.1))).2.1)))).2.1)))) (1, .inr (5, [.int 0, .int 0, .int 0, .int 0])) 4) ((cP 3 w9 a0 2 (va_rf (some ((cP 3 (gnw (cP 3 (gnw M (1, .inl (cs 3, (200 : Int32).toNatClampNeg, .inr (.inr (.inr (.inr (fun _ => none)))))) (200 : Int32).toNatClampNeg) a0 0 (va_rf (some M.2.1))) (1, .inl (cs 4, (40 : Int32).toNatClampNeg, .inr (.inr (.inr (.inr (fun _ => none)))))) (40 : Int32).toNatClampNeg) a0 1 (va_rf (some ((cP 3 (gnw M (1, .inl (cs 3, (200 : Int32).toNatClampNeg, .inr (.inr (.inr (.inr (fun _ => none)))))) (200 : Int32).toNatClampNeg) a0 0 (va_rf (some M.2.1))).2.1)))).2.1)))).2.1) 0 0 0 (-1)) ∧ (mbind (F_Cl_init cs (gnw (cP 3 w9 a0 2 (va_rf (some ((cP 3 (gnw (cP 3 (gnw M (1, .inl (cs 3, (200 : Int32).toNatClampNeg, .inr (.inr (.inr (.inr (fun _ => none)))))) (200 : Int32).toNatClampNeg) a0 0 (va_rf (some M.2.1))) (1, .inl (cs 4, (40 : Int32).toNatClampNeg, .inr (.inr (.inr (.inr (fun _ => none)))))) (40 : Int32).toNatClampNeg) a0 1 (va_rf (some ((cP 3 (gnw M (1, .inl (cs 3, (200 : Int32).toNatClampNeg, .inr (.inr (.inr (.inr (fun _ => none)))))) (200 : Int32).toNatClampNeg) a0 0 (va_rf (some M.2.1))).2.1)))).2.1)))) (1, .inr (5, [.int 0, .int 0, .int 0, .int 0])) 4) ((cP 3 w9 a0 2 (va_rf (some ((cP 3 (gnw (cP 3 (gnw M (1, .inl (cs 3, (200 : Int32).toNatClampNeg, .inr (.inr (.inr (.inr (fun _ => none)))))) (200 : Int32).toNatClampNeg) a0 0 (va_rf (some M.2.1))) (1, .inl (cs 4, (40 : Int32).toNatClampNeg, .inr (.inr (.inr (.inr (fun _ => none)))))) (40 : Int32).toNatClampNeg) a0 1 (va_rf (some ((cP 3 (gnw M (1, .inl (cs 3, (200 : Int32).toNatClampNeg, .inr (.inr (.inr (.inr (fun _ => none)))))) (200 : Int32).toNatClampNeg) a0 0 (va_rf (some M.2.1))).2.1)))).2.1)))).2.1) 0 0 0 (-1)) (fun w13 => (cOk 3 w13 a0) ∧ (True))))))))))))
set_option maxRecDepth 100000 in
set_option maxHeartbeats 4000000 in
theorem cc_Ns_init (l : Launch) (hf : l.flags = pinnedFlags ++ [noTraceFlag]) (D : va_G) (cs : Nat → ClassId) (B : Nat) (dE : Nat × Nat) (lim : Nat × Nat) (M : gMem) (a0 : Nat) (hS : S_Ns_init cs lim M a0) : cMet l y_Ns_init (Cond.code y_Ns_init c_Ns_init 1 none) (2) (44) D cs B dE (gA B) lim [.ref a0] M (fun x M' => x = .inl none ∧ M' = (F_Ns_init cs M a0)) := by
  refine cMet.ofW (by decide) (Nat.le_of_ble_eq_true rfl) (lv0 := [(0, .ref a0)]) rfl ?_
  intro p e s m args below meth c C hE hR0 hle hr hlocks hex hn
  generalize hF : F_Ns_init cs M a0 = Fv
  unfold F_Ns_init at hF
  unfold S_Ns_init at hS
  refine g_aload_n C d_Ns_init_0 rfl ?_
  refine g_objInit C km_Ns_3 kv_Ob_init kd_Ob_init d_Ns_init_1 (Nat.le_of_ble_eq_true rfl) (Nat.le_of_ble_eq_true rfl) ?_
  refine g_aload_n C d_Ns_init_4 rfl ?_
  refine g_sipush (v := 200) C d_Ns_init_5 (by decide) ?_
  refine GW.more (A' := gA B) (fun _ h => h.elim) ?_
  obtain ⟨hl1, hS⟩ := hS
  refine c_newq (M0 := M) (M := M) C hE.1 ⟨rfl, rfl⟩ hle 3 rfl kc_Ns_9 (gE_ao hE ko_No) hl1.1.1 hl1.1.2 d_Ns_init_8 hl1.2 (fun hle => ?_)
  obtain ⟨ho3, hS⟩ := hS
  refine GW.eqs (st' := [va_rf (some M.2.1), .ref a0]) rfl ?_
  refine k_putF (M0 := M) (M := gnw M (1, .inl (cs 3, (200 : Int32).toNatClampNeg, .inr (.inr (.inr (.inr (fun _ => none)))))) (200 : Int32).toNatClampNeg) C hE.1 (ci := 3) i_Ns rfl 0 (by decide) (by decide) kf_Ns_11 t_Ns t_Ns_ok n_Ns rfl hn rfl (nf_q _ (Or.inr ⟨_, rfl⟩) _) d_Ns_init_11 ho3 ?_
  replace hle := cLe.cP (ci := 3) (a := a0) (k := 0) (v := va_rf (some M.2.1)) hle
  refine g_aload_n C d_Ns_init_14 rfl ?_
  refine g_bipush (v := 40) C d_Ns_init_15 (by decide) ?_
  obtain ⟨hl4, hS⟩ := hS
  refine c_newq (M0 := M) (M := cP 3 (gnw M (1, .inl (cs 3, (200 : Int32).toNatClampNeg, .inr (.inr (.inr (.inr (fun _ => none)))))) (200 : Int32).toNatClampNeg) a0 0 (va_rf (some M.2.1))) C hE.1 ⟨rfl, rfl⟩ hle 4 rfl kc_Ns_17 (gE_ao hE ko_Cl) hl4.1.1 hl4.1.2 d_Ns_init_17 hl4.2 (fun hle => ?_)
  obtain ⟨ho6, hS⟩ := hS
  refine GW.eqs (st' := [va_rf (some ((cP 3 (gnw M (1, .inl (cs 3, (200 : Int32).toNatClampNeg, .inr (.inr (.inr (.inr (fun _ => none)))))) (200 : Int32).toNatClampNeg) a0 0 (va_rf (some M.2.1))).2.1)), .ref a0]) rfl ?_
  refine k_putF (M0 := M) (M := gnw (cP 3 (gnw M (1, .inl (cs 3, (200 : Int32).toNatClampNeg, .inr (.inr (.inr (.inr (fun _ => none)))))) (200 : Int32).toNatClampNeg) a0 0 (va_rf (some M.2.1))) (1, .inl (cs 4, (40 : Int32).toNatClampNeg, .inr (.inr (.inr (.inr (fun _ => none)))))) (40 : Int32).toNatClampNeg) C hE.1 (ci := 3) i_Ns rfl 1 (by decide) (by decide) kf_Ns_19 t_Ns t_Ns_ok n_Ns rfl hn rfl (nf_q _ (Or.inr ⟨_, rfl⟩) _) d_Ns_init_20 ho6 ?_
  replace hle := cLe.cP (ci := 3) (a := a0) (k := 1) (v := va_rf (some ((cP 3 (gnw M (1, .inl (cs 3, (200 : Int32).toNatClampNeg, .inr (.inr (.inr (.inr (fun _ => none)))))) (200 : Int32).toNatClampNeg) a0 0 (va_rf (some M.2.1))).2.1))) hle
  refine g_aload_n C d_Ns_init_23 rfl ?_
  obtain ⟨hl7, hS⟩ := hS
  refine c_new (M0 := M) (M := cP 3 (gnw (cP 3 (gnw M (1, .inl (cs 3, (200 : Int32).toNatClampNeg, .inr (.inr (.inr (.inr (fun _ => none)))))) (200 : Int32).toNatClampNeg) a0 0 (va_rf (some M.2.1))) (1, .inl (cs 4, (40 : Int32).toNatClampNeg, .inr (.inr (.inr (.inr (fun _ => none)))))) (40 : Int32).toNatClampNeg) a0 1 (va_rf (some ((cP 3 (gnw M (1, .inl (cs 3, (200 : Int32).toNatClampNeg, .inr (.inr (.inr (.inr (fun _ => none)))))) (200 : Int32).toNatClampNeg) a0 0 (va_rf (some M.2.1))).2.1)))) (ci := 4) (N := 11) (fs := [.int 0, .int 0, .int 0, .int 0, .int 0, .int 0, .int 0, .int 0, .int 0, .int 0, .int 0]) C hE.1 ⟨rfl, rfl⟩ hle i_No rfl t_No t_No_ok kc_Ns_9 kn_No ki_No (by decide) d_Ns_init_24 hl7 (fun hle => ?_)
  refine g_dup C d_Ns_init_27 rfl ?_
  refine g_iconst (v := 2) C d_Ns_init_28 (by decide) ?_
  obtain ⟨hs8, hS⟩ := hS
  refine c_call (av := [.ref ((cP 3 (gnw (cP 3 (gnw M (1, .inl (cs 3, (200 : Int32).toNatClampNeg, .inr (.inr (.inr (.inr (fun _ => none)))))) (200 : Int32).toNatClampNeg) a0 0 (va_rf (some M.2.1))) (1, .inl (cs 4, (40 : Int32).toNatClampNeg, .inr (.inr (.inr (.inr (fun _ => none)))))) (40 : Int32).toNatClampNeg) a0 1 (va_rf (some ((cP 3 (gnw M (1, .inl (cs 3, (200 : Int32).toNatClampNeg, .inr (.inr (.inr (.inr (fun _ => none)))))) (200 : Int32).toNatClampNeg) a0 0 (va_rf (some M.2.1))).2.1)))).2.1), .int 2]) (rest := [.ref ((cP 3 (gnw (cP 3 (gnw M (1, .inl (cs 3, (200 : Int32).toNatClampNeg, .inr (.inr (.inr (.inr (fun _ => none)))))) (200 : Int32).toNatClampNeg) a0 0 (va_rf (some M.2.1))) (1, .inl (cs 4, (40 : Int32).toNatClampNeg, .inr (.inr (.inr (.inr (fun _ => none)))))) (40 : Int32).toNatClampNeg) a0 1 (va_rf (some ((cP 3 (gnw M (1, .inl (cs 3, (200 : Int32).toNatClampNeg, .inr (.inr (.inr (.inr (fun _ => none)))))) (200 : Int32).toNatClampNeg) a0 0 (va_rf (some M.2.1))).2.1)))).2.1), .ref a0]) C hE (fun _ h => h) ⟨rfl, rfl⟩ hle (cc_No_init l hf D cs B dE lim _ ((cP 3 (gnw (cP 3 (gnw M (1, .inl (cs 3, (200 : Int32).toNatClampNeg, .inr (.inr (.inr (.inr (fun _ => none)))))) (200 : Int32).toNatClampNeg) a0 0 (va_rf (some M.2.1))) (1, .inl (cs 4, (40 : Int32).toNatClampNeg, .inr (.inr (.inr (.inr (fun _ => none)))))) (40 : Int32).toNatClampNeg) a0 1 (va_rf (some ((cP 3 (gnw M (1, .inl (cs 3, (200 : Int32).toNatClampNeg, .inr (.inr (.inr (.inr (fun _ => none)))))) (200 : Int32).toNatClampNeg) a0 0 (va_rf (some M.2.1))).2.1)))).2.1) 2 hs8) (fun _ h => h) kd_No_init ki_No (Nat.le_of_ble_eq_true rfl) (Nat.le_of_ble_eq_true rfl) d_Ns_init_29 (Nat.le_of_ble_eq_true rfl) (c_fI (n := 1) C rfl km_Ns_23 kv_No_init kd_No_init ⟨by decide, by decide, by decide⟩ rfl rfl d_Ns_init_29) (fun v1 M1 hv hle => ?_) (fun E1 M1 hv hle => ?_)
  · rw [mbind_eq] at hF hS
    obtain ⟨hx, hM1⟩ := hv
    have hM2 := hM1.symm
    subst hM2
    generalize hq_w9 : F_No_init cs (gnw (cP 3 (gnw (cP 3 (gnw M (1, .inl (cs 3, (200 : Int32).toNatClampNeg, .inr (.inr (.inr (.inr (fun _ => none)))))) (200 : Int32).toNatClampNeg) a0 0 (va_rf (some M.2.1))) (1, .inl (cs 4, (40 : Int32).toNatClampNeg, .inr (.inr (.inr (.inr (fun _ => none)))))) (40 : Int32).toNatClampNeg) a0 1 (va_rf (some ((cP 3 (gnw M (1, .inl (cs 3, (200 : Int32).toNatClampNeg, .inr (.inr (.inr (.inr (fun _ => none)))))) (200 : Int32).toNatClampNeg) a0 0 (va_rf (some M.2.1))).2.1)))) (1, .inr (4, [.int 0, .int 0, .int 0, .int 0, .int 0, .int 0, .int 0, .int 0, .int 0, .int 0, .int 0])) 11) ((cP 3 (gnw (cP 3 (gnw M (1, .inl (cs 3, (200 : Int32).toNatClampNeg, .inr (.inr (.inr (.inr (fun _ => none)))))) (200 : Int32).toNatClampNeg) a0 0 (va_rf (some M.2.1))) (1, .inl (cs 4, (40 : Int32).toNatClampNeg, .inr (.inr (.inr (.inr (fun _ => none)))))) (40 : Int32).toNatClampNeg) a0 1 (va_rf (some ((cP 3 (gnw M (1, .inl (cs 3, (200 : Int32).toNatClampNeg, .inr (.inr (.inr (.inr (fun _ => none)))))) (200 : Int32).toNatClampNeg) a0 0 (va_rf (some M.2.1))).2.1)))).2.1) 2 = w9 at hF hS hx hle ⊢
    cases hx
    refine GW.eqs (st' := [.ref ((cP 3 (gnw (cP 3 (gnw M (1, .inl (cs 3, (200 : Int32).toNatClampNeg, .inr (.inr (.inr (.inr (fun _ => none)))))) (200 : Int32).toNatClampNeg) a0 0 (va_rf (some M.2.1))) (1, .inl (cs 4, (40 : Int32).toNatClampNeg, .inr (.inr (.inr (.inr (fun _ => none)))))) (40 : Int32).toNatClampNeg) a0 1 (va_rf (some ((cP 3 (gnw M (1, .inl (cs 3, (200 : Int32).toNatClampNeg, .inr (.inr (.inr (.inr (fun _ => none)))))) (200 : Int32).toNatClampNeg) a0 0 (va_rf (some M.2.1))).2.1)))).2.1), .ref a0]) rfl ?_
    obtain ⟨ho10, hS⟩ := hS
    refine GW.eqs (st' := [va_rf (some ((cP 3 (gnw (cP 3 (gnw M (1, .inl (cs 3, (200 : Int32).toNatClampNeg, .inr (.inr (.inr (.inr (fun _ => none)))))) (200 : Int32).toNatClampNeg) a0 0 (va_rf (some M.2.1))) (1, .inl (cs 4, (40 : Int32).toNatClampNeg, .inr (.inr (.inr (.inr (fun _ => none)))))) (40 : Int32).toNatClampNeg) a0 1 (va_rf (some ((cP 3 (gnw M (1, .inl (cs 3, (200 : Int32).toNatClampNeg, .inr (.inr (.inr (.inr (fun _ => none)))))) (200 : Int32).toNatClampNeg) a0 0 (va_rf (some M.2.1))).2.1)))).2.1)), .ref a0]) rfl ?_
    refine k_putF (M0 := M) (M := w9) C hE.1 (ci := 3) i_Ns rfl 2 (by decide) (by decide) kf_Ns_26 t_Ns t_Ns_ok n_Ns rfl hn rfl (nf_q _ (Or.inl ⟨_, rfl⟩) _) d_Ns_init_32 ho10 ?_
    replace hle := cLe.cP (ci := 3) (a := a0) (k := 2) (v := va_rf (some ((cP 3 (gnw (cP 3 (gnw M (1, .inl (cs 3, (200 : Int32).toNatClampNeg, .inr (.inr (.inr (.inr (fun _ => none)))))) (200 : Int32).toNatClampNeg) a0 0 (va_rf (some M.2.1))) (1, .inl (cs 4, (40 : Int32).toNatClampNeg, .inr (.inr (.inr (.inr (fun _ => none)))))) (40 : Int32).toNatClampNeg) a0 1 (va_rf (some ((cP 3 (gnw M (1, .inl (cs 3, (200 : Int32).toNatClampNeg, .inr (.inr (.inr (.inr (fun _ => none)))))) (200 : Int32).toNatClampNeg) a0 0 (va_rf (some M.2.1))).2.1)))).2.1))) hle
    refine g_aload_n C d_Ns_init_35 rfl ?_
    obtain ⟨hl11, hS⟩ := hS
    refine c_new (M0 := M) (M := cP 3 w9 a0 2 (va_rf (some ((cP 3 (gnw (cP 3 (gnw M (1, .inl (cs 3, (200 : Int32).toNatClampNeg, .inr (.inr (.inr (.inr (fun _ => none)))))) (200 : Int32).toNatClampNeg) a0 0 (va_rf (some M.2.1))) (1, .inl (cs 4, (40 : Int32).toNatClampNeg, .inr (.inr (.inr (.inr (fun _ => none)))))) (40 : Int32).toNatClampNeg) a0 1 (va_rf (some ((cP 3 (gnw M (1, .inl (cs 3, (200 : Int32).toNatClampNeg, .inr (.inr (.inr (.inr (fun _ => none)))))) (200 : Int32).toNatClampNeg) a0 0 (va_rf (some M.2.1))).2.1)))).2.1)))) (ci := 5) (N := 4) (fs := [.int 0, .int 0, .int 0, .int 0]) C hE.1 ⟨rfl, rfl⟩ hle i_Cl rfl t_Cl t_Cl_ok kc_Ns_17 kn_Cl ki_Cl (by decide) d_Ns_init_36 hl11 (fun hle => ?_)
    refine g_dup C d_Ns_init_39 rfl ?_
    refine g_iconst (v := 0) C d_Ns_init_40 (by decide) ?_
    refine g_iconst (v := 0) C d_Ns_init_41 (by decide) ?_
    refine g_iconst (v := 0) C d_Ns_init_42 (by decide) ?_
    refine g_iconst (v := (-1)) C d_Ns_init_43 (by decide) ?_
    obtain ⟨hs12, hS⟩ := hS
    refine c_call (av := [.ref ((cP 3 w9 a0 2 (va_rf (some ((cP 3 (gnw (cP 3 (gnw M (1, .inl (cs 3, (200 : Int32).toNatClampNeg, .inr (.inr (.inr (.inr (fun _ => none)))))) (200 : Int32).toNatClampNeg) a0 0 (va_rf (some M.2.1))) (1, .inl (cs 4, (40 : Int32).toNatClampNeg, .inr (.inr (.inr (.inr (fun _ => none)))))) (40 : Int32).toNatClampNeg) a0 1 (va_rf (some ((cP 3 (gnw M (1, .inl (cs 3, (200 : Int32).toNatClampNeg, .inr (.inr (.inr (.inr (fun _ => none)))))) (200 : Int32).toNatClampNeg) a0 0 (va_rf (some M.2.1))).2.1)))).2.1)))).2.1), .int 0, .int 0, .int 0, .int (-1)]) (rest := [.ref ((cP 3 w9 a0 2 (va_rf (some ((cP 3 (gnw (cP 3 (gnw M (1, .inl (cs 3, (200 : Int32).toNatClampNeg, .inr (.inr (.inr (.inr (fun _ => none)))))) (200 : Int32).toNatClampNeg) a0 0 (va_rf (some M.2.1))) (1, .inl (cs 4, (40 : Int32).toNatClampNeg, .inr (.inr (.inr (.inr (fun _ => none)))))) (40 : Int32).toNatClampNeg) a0 1 (va_rf (some ((cP 3 (gnw M (1, .inl (cs 3, (200 : Int32).toNatClampNeg, .inr (.inr (.inr (.inr (fun _ => none)))))) (200 : Int32).toNatClampNeg) a0 0 (va_rf (some M.2.1))).2.1)))).2.1)))).2.1), .ref a0]) C hE (fun _ h => h) ⟨rfl, rfl⟩ hle (cc_Cl_init l hf D cs B dE lim _ ((cP 3 w9 a0 2 (va_rf (some ((cP 3 (gnw (cP 3 (gnw M (1, .inl (cs 3, (200 : Int32).toNatClampNeg, .inr (.inr (.inr (.inr (fun _ => none)))))) (200 : Int32).toNatClampNeg) a0 0 (va_rf (some M.2.1))) (1, .inl (cs 4, (40 : Int32).toNatClampNeg, .inr (.inr (.inr (.inr (fun _ => none)))))) (40 : Int32).toNatClampNeg) a0 1 (va_rf (some ((cP 3 (gnw M (1, .inl (cs 3, (200 : Int32).toNatClampNeg, .inr (.inr (.inr (.inr (fun _ => none)))))) (200 : Int32).toNatClampNeg) a0 0 (va_rf (some M.2.1))).2.1)))).2.1)))).2.1) 0 0 0 (-1) hs12) (fun _ h => h) kd_Cl_init ki_Cl (Nat.le_of_ble_eq_true rfl) (Nat.le_of_ble_eq_true rfl) d_Ns_init_44 (Nat.le_of_ble_eq_true rfl) (c_fI (n := 4) C rfl km_Ns_30 kv_Cl_init kd_Cl_init ⟨by decide, by decide, by decide⟩ rfl rfl d_Ns_init_44) (fun v1 M1 hv hle => ?_) (fun E1 M1 hv hle => ?_)
    · rw [mbind_eq] at hF hS
      obtain ⟨hx, hM1⟩ := hv
      have hM2 := hM1.symm
      subst hM2
      generalize hq_w13 : F_Cl_init cs (gnw (cP 3 w9 a0 2 (va_rf (some ((cP 3 (gnw (cP 3 (gnw M (1, .inl (cs 3, (200 : Int32).toNatClampNeg, .inr (.inr (.inr (.inr (fun _ => none)))))) (200 : Int32).toNatClampNeg) a0 0 (va_rf (some M.2.1))) (1, .inl (cs 4, (40 : Int32).toNatClampNeg, .inr (.inr (.inr (.inr (fun _ => none)))))) (40 : Int32).toNatClampNeg) a0 1 (va_rf (some ((cP 3 (gnw M (1, .inl (cs 3, (200 : Int32).toNatClampNeg, .inr (.inr (.inr (.inr (fun _ => none)))))) (200 : Int32).toNatClampNeg) a0 0 (va_rf (some M.2.1))).2.1)))).2.1)))) (1, .inr (5, [.int 0, .int 0, .int 0, .int 0])) 4) ((cP 3 w9 a0 2 (va_rf (some ((cP 3 (gnw (cP 3 (gnw M (1, .inl (cs 3, (200 : Int32).toNatClampNeg, .inr (.inr (.inr (.inr (fun _ => none)))))) (200 : Int32).toNatClampNeg) a0 0 (va_rf (some M.2.1))) (1, .inl (cs 4, (40 : Int32).toNatClampNeg, .inr (.inr (.inr (.inr (fun _ => none)))))) (40 : Int32).toNatClampNeg) a0 1 (va_rf (some ((cP 3 (gnw M (1, .inl (cs 3, (200 : Int32).toNatClampNeg, .inr (.inr (.inr (.inr (fun _ => none)))))) (200 : Int32).toNatClampNeg) a0 0 (va_rf (some M.2.1))).2.1)))).2.1)))).2.1) 0 0 0 (-1) = w13 at hF hS hx hle ⊢
      cases hx
      refine GW.eqs (st' := [.ref ((cP 3 w9 a0 2 (va_rf (some ((cP 3 (gnw (cP 3 (gnw M (1, .inl (cs 3, (200 : Int32).toNatClampNeg, .inr (.inr (.inr (.inr (fun _ => none)))))) (200 : Int32).toNatClampNeg) a0 0 (va_rf (some M.2.1))) (1, .inl (cs 4, (40 : Int32).toNatClampNeg, .inr (.inr (.inr (.inr (fun _ => none)))))) (40 : Int32).toNatClampNeg) a0 1 (va_rf (some ((cP 3 (gnw M (1, .inl (cs 3, (200 : Int32).toNatClampNeg, .inr (.inr (.inr (.inr (fun _ => none)))))) (200 : Int32).toNatClampNeg) a0 0 (va_rf (some M.2.1))).2.1)))).2.1)))).2.1), .ref a0]) rfl ?_
      obtain ⟨ho14, hS⟩ := hS
      refine GW.eqs (st' := [va_rf (some ((cP 3 w9 a0 2 (va_rf (some ((cP 3 (gnw (cP 3 (gnw M (1, .inl (cs 3, (200 : Int32).toNatClampNeg, .inr (.inr (.inr (.inr (fun _ => none)))))) (200 : Int32).toNatClampNeg) a0 0 (va_rf (some M.2.1))) (1, .inl (cs 4, (40 : Int32).toNatClampNeg, .inr (.inr (.inr (.inr (fun _ => none)))))) (40 : Int32).toNatClampNeg) a0 1 (va_rf (some ((cP 3 (gnw M (1, .inl (cs 3, (200 : Int32).toNatClampNeg, .inr (.inr (.inr (.inr (fun _ => none)))))) (200 : Int32).toNatClampNeg) a0 0 (va_rf (some M.2.1))).2.1)))).2.1)))).2.1)), .ref a0]) rfl ?_
      refine k_putF (M0 := M) (M := w13) C hE.1 (ci := 3) i_Ns rfl 3 (by decide) (by decide) kf_Ns_33 t_Ns t_Ns_ok n_Ns rfl hn rfl (nf_q _ (Or.inl ⟨_, rfl⟩) _) d_Ns_init_47 ho14 ?_
      replace hle := cLe.cP (ci := 3) (a := a0) (k := 3) (v := va_rf (some ((cP 3 w9 a0 2 (va_rf (some ((cP 3 (gnw (cP 3 (gnw M (1, .inl (cs 3, (200 : Int32).toNatClampNeg, .inr (.inr (.inr (.inr (fun _ => none)))))) (200 : Int32).toNatClampNeg) a0 0 (va_rf (some M.2.1))) (1, .inl (cs 4, (40 : Int32).toNatClampNeg, .inr (.inr (.inr (.inr (fun _ => none)))))) (40 : Int32).toNatClampNeg) a0 1 (va_rf (some ((cP 3 (gnw M (1, .inl (cs 3, (200 : Int32).toNatClampNeg, .inr (.inr (.inr (.inr (fun _ => none)))))) (200 : Int32).toNatClampNeg) a0 0 (va_rf (some M.2.1))).2.1)))).2.1)))).2.1))) hle
      exact c_vret (M := cP 3 w13 a0 3 (va_rf (some ((cP 3 w9 a0 2 (va_rf (some ((cP 3 (gnw (cP 3 (gnw M (1, .inl (cs 3, (200 : Int32).toNatClampNeg, .inr (.inr (.inr (.inr (fun _ => none)))))) (200 : Int32).toNatClampNeg) a0 0 (va_rf (some M.2.1))) (1, .inl (cs 4, (40 : Int32).toNatClampNeg, .inr (.inr (.inr (.inr (fun _ => none)))))) (40 : Int32).toNatClampNeg) a0 1 (va_rf (some ((cP 3 (gnw M (1, .inl (cs 3, (200 : Int32).toNatClampNeg, .inr (.inr (.inr (.inr (fun _ => none)))))) (200 : Int32).toNatClampNeg) a0 0 (va_rf (some M.2.1))).2.1)))).2.1)))).2.1)))) C hr hlocks hle d_Ns_init_50 (by rw [← hF]; exact ⟨rfl, rfl⟩)
    · cases hv.1
  · cases hv.1
def F_Ns_dropAll (cs : Nat → ClassId) (M : gMem) (a0 : Nat) : gMem := cP 3 (cP 3 (cP 3 M a0 4 (.int 0)) a0 5 (.int 0)) a0 6 (.int 0)
def S_Ns_dropAll (cs : Nat → ClassId) (lim : Nat × Nat) (M : gMem) (a0 : Nat) : Prop := (cOk 3 M a0) ∧ ((cOk 3 (cP 3 M a0 4 (.int 0)) a0) ∧ ((cOk 3 (cP 3 (cP 3 M a0 4 (.int 0)) a0 5 (.int 0)) a0) ∧ (True)))
set_option maxRecDepth 100000 in
set_option maxHeartbeats 4000000 in
theorem cc_Ns_dropAll (l : Launch) (hf : l.flags = pinnedFlags ++ [noTraceFlag]) (D : va_G) (cs : Nat → ClassId) (B : Nat) (dE : Nat × Nat) (lim : Nat × Nat) (M : gMem) (a0 : Nat) (hS : S_Ns_dropAll cs lim M a0) : cMet l y_Ns_dropAll (Cond.code y_Ns_dropAll c_Ns_dropAll 1 none) (0) (0) D cs B dE (gA B) lim [.ref a0] M (fun x M' => x = .inl none ∧ M' = (F_Ns_dropAll cs M a0)) := by
  refine cMet.ofW (by decide) (Nat.le_of_ble_eq_true rfl) (lv0 := [(0, .ref a0)]) rfl ?_
  intro p e s m args below meth c C hE hR0 hle hr hlocks hex hn
  generalize hF : F_Ns_dropAll cs M a0 = Fv
  unfold F_Ns_dropAll at hF
  unfold S_Ns_dropAll at hS
  refine g_aload_n C d_Ns_dropAll_0 rfl ?_
  refine g_iconst (v := 0) C d_Ns_dropAll_1 (by decide) ?_
  refine GW.more (A' := gA B) (fun _ h => h.elim) ?_
  obtain ⟨ho1, hS⟩ := hS
  refine k_put (M0 := M) (M := M) C hE.1 (ci := 3) i_Ns rfl 4 (by decide) (by decide) kf_Ns_37 t_Ns t_Ns_ok n_Ns rfl (nf_i _) d_Ns_dropAll_2 ho1 ?_
  replace hle := cLe.cP (ci := 3) (a := a0) (k := 4) (v := .int 0) hle
  refine g_aload_n C d_Ns_dropAll_5 rfl ?_
  refine g_iconst (v := 0) C d_Ns_dropAll_6 (by decide) ?_
  obtain ⟨ho2, hS⟩ := hS
  refine k_put (M0 := M) (M := cP 3 M a0 4 (.int 0)) C hE.1 (ci := 3) i_Ns rfl 5 (by decide) (by decide) kf_Ns_41 t_Ns t_Ns_ok n_Ns rfl (nf_i _) d_Ns_dropAll_7 ho2 ?_
  replace hle := cLe.cP (ci := 3) (a := a0) (k := 5) (v := .int 0) hle
  refine g_aload_n C d_Ns_dropAll_10 rfl ?_
  refine g_iconst (v := 0) C d_Ns_dropAll_11 (by decide) ?_
  obtain ⟨ho3, hS⟩ := hS
  refine k_put (M0 := M) (M := cP 3 (cP 3 M a0 4 (.int 0)) a0 5 (.int 0)) C hE.1 (ci := 3) i_Ns rfl 6 (by decide) (by decide) kf_Ns_44 t_Ns t_Ns_ok n_Ns rfl (nf_i _) d_Ns_dropAll_12 ho3 ?_
  replace hle := cLe.cP (ci := 3) (a := a0) (k := 6) (v := .int 0) hle
  exact c_vret (M := cP 3 (cP 3 (cP 3 M a0 4 (.int 0)) a0 5 (.int 0)) a0 6 (.int 0)) C hr hlocks hle d_Ns_dropAll_15 (by rw [← hF]; exact ⟨rfl, rfl⟩)
def F_Ns_has (cs : Nat → ClassId) (M : gMem) (a0 : Nat) (x1 : Int32) : Int32 := if x1 < 0 then (0) else (if (cI M a0 4) ≤ x1 then (0) else (1))
def S_Ns_has (cs : Nat → ClassId) (lim : Nat × Nat) (M : gMem) (a0 : Nat) (x1 : Int32) : Prop := if x1 < 0 then (True) else ((cOk 3 M a0) ∧ (if (cI M a0 4) ≤ x1 then (True) else (True)))
set_option maxRecDepth 100000 in
set_option maxHeartbeats 4000000 in
theorem cc_Ns_has (l : Launch) (hf : l.flags = pinnedFlags ++ [noTraceFlag]) (D : va_G) (cs : Nat → ClassId) (B : Nat) (dE : Nat × Nat) (lim : Nat × Nat) (M : gMem) (a0 : Nat) (x1 : Int32) (hS : S_Ns_has cs lim M a0 x1) : cMet l y_Ns_has (Cond.code y_Ns_has c_Ns_has 2 (some .boolean)) (0) (0) D cs B dE (fun _ => False) lim [.ref a0, .int x1] M (fun x M' => x = .inl (some (.int (F_Ns_has cs M a0 x1))) ∧ M' = M) := by
  refine cMet.ofW (by decide) (Nat.le_of_ble_eq_true rfl) (lv0 := [(0, .ref a0), (1, .int x1)]) rfl ?_
  intro p e s m args below meth c C hE hR0 hle hr hlocks hex hn
  generalize hF : F_Ns_has cs M a0 x1 = Fv
  unfold F_Ns_has at hF
  unfold S_Ns_has at hS
  refine g_iload_n C d_Ns_has_0 rfl ?_
  refine g_if_lt C 16 d_Ns_has_1 (by decide) (fun hc1 => ?_) (fun hc1 => ?_)
  · rw [if_pos hc1] at hF hS
    refine g_iconst (v := 0) C d_Ns_has_16 (by decide) ?_
    exact c_zret (M := M) C hr hlocks hle (by decide) d_Ns_has_17 (by rw [← hF]; exact ⟨rfl, rfl⟩)
  · rw [if_neg hc1] at hF hS
    refine g_iload_n C d_Ns_has_4 rfl ?_
    refine g_aload_n C d_Ns_has_5 rfl ?_
    obtain ⟨ho2, hS⟩ := hS
    refine c_geti C hE.1 (ci := 3) i_Ns rfl 4 (by decide) (by decide) (by decide) kf_Ns_37 d_Ns_has_6 ho2 ?_
    refine g_icmp_ge C 16 d_Ns_has_9 (by decide) (fun hc3 => ?_) (fun hc3 => ?_)
    · rw [if_pos hc3] at hF hS
      refine g_iconst (v := 0) C d_Ns_has_16 (by decide) ?_
      exact c_zret (M := M) C hr hlocks hle (by decide) d_Ns_has_17 (by rw [← hF]; exact ⟨rfl, rfl⟩)
    · rw [if_neg hc3] at hF hS
      refine g_iconst (v := 1) C d_Ns_has_12 (by decide) ?_
      refine g_goto C 17 d_Ns_has_13 (by decide) ?_
      exact c_zret (M := M) C hr hlocks hle (by decide) d_Ns_has_17 (by rw [← hF]; exact ⟨rfl, rfl⟩)
def F_Ns_hasRoom (cs : Nat → ClassId) (M : gMem) (a0 : Nat) : Int32 := if 200 ≤ (cI M a0 4) then (0) else (1)
def S_Ns_hasRoom (cs : Nat → ClassId) (lim : Nat × Nat) (M : gMem) (a0 : Nat) : Prop := (cOk 3 M a0) ∧ (if 200 ≤ (cI M a0 4) then (True) else (True))
set_option maxRecDepth 100000 in
set_option maxHeartbeats 4000000 in
theorem cc_Ns_hasRoom (l : Launch) (hf : l.flags = pinnedFlags ++ [noTraceFlag]) (D : va_G) (cs : Nat → ClassId) (B : Nat) (dE : Nat × Nat) (lim : Nat × Nat) (M : gMem) (a0 : Nat) (hS : S_Ns_hasRoom cs lim M a0) : cMet l y_Ns_hasRoom (Cond.code y_Ns_hasRoom c_Ns_hasRoom 1 (some .boolean)) (0) (0) D cs B dE (fun _ => False) lim [.ref a0] M (fun x M' => x = .inl (some (.int (F_Ns_hasRoom cs M a0))) ∧ M' = M) := by
  refine cMet.ofW (by decide) (Nat.le_of_ble_eq_true rfl) (lv0 := [(0, .ref a0)]) rfl ?_
  intro p e s m args below meth c C hE hR0 hle hr hlocks hex hn
  generalize hF : F_Ns_hasRoom cs M a0 = Fv
  unfold F_Ns_hasRoom at hF
  unfold S_Ns_hasRoom at hS
  refine g_aload_n C d_Ns_hasRoom_0 rfl ?_
  obtain ⟨ho1, hS⟩ := hS
  refine c_geti C hE.1 (ci := 3) i_Ns rfl 4 (by decide) (by decide) (by decide) kf_Ns_37 d_Ns_hasRoom_1 ho1 ?_
  refine g_sipush (v := 200) C d_Ns_hasRoom_4 (by decide) ?_
  refine g_icmp_ge C 14 d_Ns_hasRoom_7 (by decide) (fun hc2 => ?_) (fun hc2 => ?_)
  · rw [if_pos hc2] at hF hS
    refine g_iconst (v := 0) C d_Ns_hasRoom_14 (by decide) ?_
    exact c_zret (M := M) C hr hlocks hle (by decide) d_Ns_hasRoom_15 (by rw [← hF]; exact ⟨rfl, rfl⟩)
  · rw [if_neg hc2] at hF hS
    refine g_iconst (v := 1) C d_Ns_hasRoom_10 (by decide) ?_
    refine g_goto C 15 d_Ns_hasRoom_11 (by decide) ?_
    exact c_zret (M := M) C hr hlocks hle (by decide) d_Ns_hasRoom_15 (by rw [← hF]; exact ⟨rfl, rfl⟩)
def F_Ns_hasRoomForClause (cs : Nat → ClassId) (M : gMem) (a0 : Nat) : Int32 := if 40 ≤ (cI M a0 5) then (0) else (1)
def S_Ns_hasRoomForClause (cs : Nat → ClassId) (lim : Nat × Nat) (M : gMem) (a0 : Nat) : Prop := (cOk 3 M a0) ∧ (if 40 ≤ (cI M a0 5) then (True) else (True))
set_option maxRecDepth 100000 in
set_option maxHeartbeats 4000000 in
theorem cc_Ns_hasRoomForClause (l : Launch) (hf : l.flags = pinnedFlags ++ [noTraceFlag]) (D : va_G) (cs : Nat → ClassId) (B : Nat) (dE : Nat × Nat) (lim : Nat × Nat) (M : gMem) (a0 : Nat) (hS : S_Ns_hasRoomForClause cs lim M a0) : cMet l y_Ns_hasRoomForClause (Cond.code y_Ns_hasRoomForClause c_Ns_hasRoomForClause 1 (some .boolean)) (0) (0) D cs B dE (fun _ => False) lim [.ref a0] M (fun x M' => x = .inl (some (.int (F_Ns_hasRoomForClause cs M a0))) ∧ M' = M) := by
  refine cMet.ofW (by decide) (Nat.le_of_ble_eq_true rfl) (lv0 := [(0, .ref a0)]) rfl ?_
  intro p e s m args below meth c C hE hR0 hle hr hlocks hex hn
  generalize hF : F_Ns_hasRoomForClause cs M a0 = Fv
  unfold F_Ns_hasRoomForClause at hF
  unfold S_Ns_hasRoomForClause at hS
  refine g_aload_n C d_Ns_hasRoomForClause_0 rfl ?_
  obtain ⟨ho1, hS⟩ := hS
  refine c_geti C hE.1 (ci := 3) i_Ns rfl 5 (by decide) (by decide) (by decide) kf_Ns_41 d_Ns_hasRoomForClause_1 ho1 ?_
  refine g_bipush (v := 40) C d_Ns_hasRoomForClause_4 (by decide) ?_
  refine g_icmp_ge C 13 d_Ns_hasRoomForClause_6 (by decide) (fun hc2 => ?_) (fun hc2 => ?_)
  · rw [if_pos hc2] at hF hS
    refine g_iconst (v := 0) C d_Ns_hasRoomForClause_13 (by decide) ?_
    exact c_zret (M := M) C hr hlocks hle (by decide) d_Ns_hasRoomForClause_14 (by rw [← hF]; exact ⟨rfl, rfl⟩)
  · rw [if_neg hc2] at hF hS
    refine g_iconst (v := 1) C d_Ns_hasRoomForClause_9 (by decide) ?_
    refine g_goto C 14 d_Ns_hasRoomForClause_10 (by decide) ?_
    exact c_zret (M := M) C hr hlocks hle (by decide) d_Ns_hasRoomForClause_14 (by rw [← hF]; exact ⟨rfl, rfl⟩)
def F_Ns_at (cs : Nat → ClassId) (M : gMem) (a0 : Nat) (x1 : Int32) : Option Nat := mbind (F_Ns_has cs M a0 x1) (fun w3 => if w3 = 0 then (if (none : Option Nat) = none then (cQ M a0 2) else ((none : Option Nat))) else (if (aQ M ((cQ M a0 0).getD 0) x1.toNatClampNeg) = none then (cQ M a0 2) else (aQ M ((cQ M a0 0).getD 0) x1.toNatClampNeg)))
def S_Ns_at (cs : Nat → ClassId) (lim : Nat × Nat) (M : gMem) (a0 : Nat) (x1 : Int32) : Prop := (cOk 3 M a0) ∧ ((S_Ns_has cs lim M a0 x1) ∧ (mbind (F_Ns_has cs M a0 x1) (fun w3 => if w3 = 0 then (if (none : Option Nat) = none then ((cOk 3 M a0) ∧ (True)) else (True)) else ((cOk 3 M a0) ∧ ((cQ M a0 0 = some ((cQ M a0 0).getD 0) ∧ aQk (cs 3) M ((cQ M a0 0).getD 0)) ∧ ((vp_in x1 (aL M ((cQ M a0 0).getD 0))) ∧ (if (aQ M ((cQ M a0 0).getD 0) x1.toNatClampNeg) = none then ((cOk 3 M a0) ∧ (True)) else (True))))))))
set_option maxRecDepth 100000 in
set_option maxHeartbeats 4000000 in
theorem cc_Ns_at (l : Launch) (hf : l.flags = pinnedFlags ++ [noTraceFlag]) (D : va_G) (cs : Nat → ClassId) (B : Nat) (dE : Nat × Nat) (lim : Nat × Nat) (M : gMem) (a0 : Nat) (x1 : Int32) (hS : S_Ns_at cs lim M a0 x1) : cMet l y_Ns_at (Cond.code y_Ns_at c_Ns_at 3 (some (.object "EffectNodes$Node"))) (1) (21) D cs B dE (fun _ => False) lim [.ref a0, .int x1] M (fun x M' => x = .inl (some (va_rf (F_Ns_at cs M a0 x1))) ∧ M' = M) := by
  refine cMet.ofW (by decide) (Nat.le_of_ble_eq_true rfl) (lv0 := [(0, .ref a0), (1, .int x1)]) rfl ?_
  intro p e s m args below meth c C hE hR0 hle hr hlocks hex hn
  generalize hF : F_Ns_at cs M a0 x1 = Fv
  unfold F_Ns_at at hF
  unfold S_Ns_at at hS
  refine g_aload_n C d_Ns_at_0 rfl ?_
  refine g_iload_n C d_Ns_at_1 rfl ?_
  obtain ⟨ho1, hS⟩ := hS
  obtain ⟨hs2, hS⟩ := hS
  refine c_call (av := [.ref a0, .int x1]) (rest := []) C hE (fun _ h => h.elim) ⟨rfl, rfl⟩ hle (cc_Ns_has l hf D cs B dE lim _ a0 x1 hs2) (fun _ h => h.elim) kd_Ns_has ki_Ns (Nat.le_of_ble_eq_true rfl) (Nat.le_of_ble_eq_true rfl) d_Ns_at_2 (Nat.le_of_ble_eq_true rfl) (c_fV (n := 1) (ci := 3) C hE.1 rfl km_Ns_47 kv_Ns_has kl_Ns_has kd_Ns_has ⟨by decide, by decide, by decide⟩ rfl rfl d_Ns_at_2 ho1) (fun v1 M1 hv hle => ?_) (fun E1 M1 hv hle => ?_)
  · rw [mbind_eq] at hF hS
    obtain ⟨hx, hM1⟩ := hv
    have hM2 := hM1.symm
    subst hM2
    generalize hq_w3 : F_Ns_has cs M a0 x1 = w3 at hF hS hx hle ⊢
    cases hx
    refine GW.eqs (st' := [.int w3]) rfl ?_
    refine g_if_eq C 17 d_Ns_at_5 (by decide) (fun hc4 => ?_) (fun hc4 => ?_)
    · rw [if_pos hc4] at hF hS
      refine g_null C d_Ns_at_17 ?_
      refine GW.eqs (st' := [va_rf (none : Option Nat)]) rfl ?_
      refine q_astore_n (r := (none : Option Nat)) (lv' := [(2, va_rf (none : Option Nat)), (0, .ref a0), (1, .int x1)]) C d_Ns_at_18 (by decide) rfl ?_
      refine q_aload_n (r := (none : Option Nat)) C d_Ns_at_19 rfl ?_
      refine q_ifnull C 27 d_Ns_at_20 (by decide) (fun hc5 => ?_) (fun hc5 => ?_)
      · rw [if_pos hc5] at hF hS
        refine g_aload_n C d_Ns_at_27 rfl ?_
        obtain ⟨ho6, hS⟩ := hS
        refine c_getq C hE.1 (ci := 3) i_Ns rfl 2 (by decide) (by decide) (by decide) kf_Ns_26 d_Ns_at_28 ho6 ?_
        exact c_aret (M := M) C hr (Or.inl ⟨_, rfl⟩) hlocks hle d_Ns_at_31 (by rw [← hF]; exact ⟨rfl, rfl⟩)
      · rw [if_neg hc5] at hF hS
        refine q_aload_n (r := (none : Option Nat)) C d_Ns_at_23 rfl ?_
        refine g_goto C 31 d_Ns_at_24 (by decide) ?_
        exact c_aret (M := M) C hr (Or.inl ⟨_, rfl⟩) hlocks hle d_Ns_at_31 (by rw [← hF]; exact ⟨rfl, rfl⟩)
    · rw [if_neg hc4] at hF hS
      refine g_aload_n C d_Ns_at_8 rfl ?_
      obtain ⟨ho7, hS⟩ := hS
      refine c_getq C hE.1 (ci := 3) i_Ns rfl 0 (by decide) (by decide) (by decide) kf_Ns_11 d_Ns_at_9 ho7 ?_
      refine g_iload_n C d_Ns_at_12 rfl ?_
      obtain ⟨ha8, hS⟩ := hS
      refine GW.known2 (a := (cQ M a0 0).getD 0) ha8.1 ?_
      obtain ⟨hi9, hS⟩ := hS
      refine c_aald C hE.1 3 rfl d_Ns_at_13 ha8.2 hi9 ?_
      refine g_goto C 18 d_Ns_at_14 (by decide) ?_
      refine q_astore_n (r := aQ M ((cQ M a0 0).getD 0) x1.toNatClampNeg) (lv' := [(2, va_rf (aQ M ((cQ M a0 0).getD 0) x1.toNatClampNeg)), (0, .ref a0), (1, .int x1)]) C d_Ns_at_18 (by decide) rfl ?_
      refine q_aload_n (r := aQ M ((cQ M a0 0).getD 0) x1.toNatClampNeg) C d_Ns_at_19 rfl ?_
      refine q_ifnull C 27 d_Ns_at_20 (by decide) (fun hc10 => ?_) (fun hc10 => ?_)
      · rw [if_pos hc10] at hF hS
        refine g_aload_n C d_Ns_at_27 rfl ?_
        obtain ⟨ho11, hS⟩ := hS
        refine c_getq C hE.1 (ci := 3) i_Ns rfl 2 (by decide) (by decide) (by decide) kf_Ns_26 d_Ns_at_28 ho11 ?_
        exact c_aret (M := M) C hr (Or.inl ⟨_, rfl⟩) hlocks hle d_Ns_at_31 (by rw [← hF]; exact ⟨rfl, rfl⟩)
      · rw [if_neg hc10] at hF hS
        refine q_aload_n (r := aQ M ((cQ M a0 0).getD 0) x1.toNatClampNeg) C d_Ns_at_23 rfl ?_
        refine g_goto C 31 d_Ns_at_24 (by decide) ?_
        exact c_aret (M := M) C hr (Or.inl ⟨_, rfl⟩) hlocks hle d_Ns_at_31 (by rw [← hF]; exact ⟨rfl, rfl⟩)
  · cases hv.1
def F_Ns_clauseAt (cs : Nat → ClassId) (M : gMem) (a0 : Nat) (x1 : Int32) : Option Nat := if x1 < 0 then (if (none : Option Nat) = none then (cQ M a0 3) else ((none : Option Nat))) else (if (cI M a0 5) ≤ x1 then (if (none : Option Nat) = none then (cQ M a0 3) else ((none : Option Nat))) else (if (aQ M ((cQ M a0 1).getD 0) x1.toNatClampNeg) = none then (cQ M a0 3) else (aQ M ((cQ M a0 1).getD 0) x1.toNatClampNeg)))
def S_Ns_clauseAt (cs : Nat → ClassId) (lim : Nat × Nat) (M : gMem) (a0 : Nat) (x1 : Int32) : Prop := if x1 < 0 then (if (none : Option Nat) = none then ((cOk 3 M a0) ∧ (True)) else (True)) else ((cOk 3 M a0) ∧ (if (cI M a0 5) ≤ x1 then (if (none : Option Nat) = none then ((cOk 3 M a0) ∧ (True)) else (True)) else ((cOk 3 M a0) ∧ ((cQ M a0 1 = some ((cQ M a0 1).getD 0) ∧ aQk (cs 4) M ((cQ M a0 1).getD 0)) ∧ ((vp_in x1 (aL M ((cQ M a0 1).getD 0))) ∧ (if (aQ M ((cQ M a0 1).getD 0) x1.toNatClampNeg) = none then ((cOk 3 M a0) ∧ (True)) else (True)))))))
set_option maxRecDepth 100000 in
set_option maxHeartbeats 4000000 in
theorem cc_Ns_clauseAt (l : Launch) (hf : l.flags = pinnedFlags ++ [noTraceFlag]) (D : va_G) (cs : Nat → ClassId) (B : Nat) (dE : Nat × Nat) (lim : Nat × Nat) (M : gMem) (a0 : Nat) (x1 : Int32) (hS : S_Ns_clauseAt cs lim M a0 x1) : cMet l y_Ns_clauseAt (Cond.code y_Ns_clauseAt c_Ns_clauseAt 3 (some (.object "EffectNodes$Clause"))) (0) (0) D cs B dE (fun _ => False) lim [.ref a0, .int x1] M (fun x M' => x = .inl (some (va_rf (F_Ns_clauseAt cs M a0 x1))) ∧ M' = M) := by
  refine cMet.ofW (by decide) (Nat.le_of_ble_eq_true rfl) (lv0 := [(0, .ref a0), (1, .int x1)]) rfl ?_
  intro p e s m args below meth c C hE hR0 hle hr hlocks hex hn
  generalize hF : F_Ns_clauseAt cs M a0 x1 = Fv
  unfold F_Ns_clauseAt at hF
  unfold S_Ns_clauseAt at hS
  refine g_iload_n C d_Ns_clauseAt_0 rfl ?_
  refine g_if_lt C 21 d_Ns_clauseAt_1 (by decide) (fun hc1 => ?_) (fun hc1 => ?_)
  · rw [if_pos hc1] at hF hS
    refine g_null C d_Ns_clauseAt_21 ?_
    refine GW.eqs (st' := [va_rf (none : Option Nat)]) rfl ?_
    refine q_astore_n (r := (none : Option Nat)) (lv' := [(2, va_rf (none : Option Nat)), (0, .ref a0), (1, .int x1)]) C d_Ns_clauseAt_22 (by decide) rfl ?_
    refine q_aload_n (r := (none : Option Nat)) C d_Ns_clauseAt_23 rfl ?_
    refine q_ifnull C 31 d_Ns_clauseAt_24 (by decide) (fun hc2 => ?_) (fun hc2 => ?_)
    · rw [if_pos hc2] at hF hS
      refine g_aload_n C d_Ns_clauseAt_31 rfl ?_
      obtain ⟨ho3, hS⟩ := hS
      refine c_getq C hE.1 (ci := 3) i_Ns rfl 3 (by decide) (by decide) (by decide) kf_Ns_33 d_Ns_clauseAt_32 ho3 ?_
      exact c_aret (M := M) C hr (Or.inl ⟨_, rfl⟩) hlocks hle d_Ns_clauseAt_35 (by rw [← hF]; exact ⟨rfl, rfl⟩)
    · rw [if_neg hc2] at hF hS
      refine q_aload_n (r := (none : Option Nat)) C d_Ns_clauseAt_27 rfl ?_
      refine g_goto C 35 d_Ns_clauseAt_28 (by decide) ?_
      exact c_aret (M := M) C hr (Or.inl ⟨_, rfl⟩) hlocks hle d_Ns_clauseAt_35 (by rw [← hF]; exact ⟨rfl, rfl⟩)
  · rw [if_neg hc1] at hF hS
    refine g_iload_n C d_Ns_clauseAt_4 rfl ?_
    refine g_aload_n C d_Ns_clauseAt_5 rfl ?_
    obtain ⟨ho4, hS⟩ := hS
    refine c_geti C hE.1 (ci := 3) i_Ns rfl 5 (by decide) (by decide) (by decide) kf_Ns_41 d_Ns_clauseAt_6 ho4 ?_
    refine g_icmp_ge C 21 d_Ns_clauseAt_9 (by decide) (fun hc5 => ?_) (fun hc5 => ?_)
    · rw [if_pos hc5] at hF hS
      refine g_null C d_Ns_clauseAt_21 ?_
      refine GW.eqs (st' := [va_rf (none : Option Nat)]) rfl ?_
      refine q_astore_n (r := (none : Option Nat)) (lv' := [(2, va_rf (none : Option Nat)), (0, .ref a0), (1, .int x1)]) C d_Ns_clauseAt_22 (by decide) rfl ?_
      refine q_aload_n (r := (none : Option Nat)) C d_Ns_clauseAt_23 rfl ?_
      refine q_ifnull C 31 d_Ns_clauseAt_24 (by decide) (fun hc6 => ?_) (fun hc6 => ?_)
      · rw [if_pos hc6] at hF hS
        refine g_aload_n C d_Ns_clauseAt_31 rfl ?_
        obtain ⟨ho7, hS⟩ := hS
        refine c_getq C hE.1 (ci := 3) i_Ns rfl 3 (by decide) (by decide) (by decide) kf_Ns_33 d_Ns_clauseAt_32 ho7 ?_
        exact c_aret (M := M) C hr (Or.inl ⟨_, rfl⟩) hlocks hle d_Ns_clauseAt_35 (by rw [← hF]; exact ⟨rfl, rfl⟩)
      · rw [if_neg hc6] at hF hS
        refine q_aload_n (r := (none : Option Nat)) C d_Ns_clauseAt_27 rfl ?_
        refine g_goto C 35 d_Ns_clauseAt_28 (by decide) ?_
        exact c_aret (M := M) C hr (Or.inl ⟨_, rfl⟩) hlocks hle d_Ns_clauseAt_35 (by rw [← hF]; exact ⟨rfl, rfl⟩)
    · rw [if_neg hc5] at hF hS
      refine g_aload_n C d_Ns_clauseAt_12 rfl ?_
      obtain ⟨ho8, hS⟩ := hS
      refine c_getq C hE.1 (ci := 3) i_Ns rfl 1 (by decide) (by decide) (by decide) kf_Ns_19 d_Ns_clauseAt_13 ho8 ?_
      refine g_iload_n C d_Ns_clauseAt_16 rfl ?_
      obtain ⟨ha9, hS⟩ := hS
      refine GW.known2 (a := (cQ M a0 1).getD 0) ha9.1 ?_
      obtain ⟨hi10, hS⟩ := hS
      refine c_aald C hE.1 4 rfl d_Ns_clauseAt_17 ha9.2 hi10 ?_
      refine g_goto C 22 d_Ns_clauseAt_18 (by decide) ?_
      refine q_astore_n (r := aQ M ((cQ M a0 1).getD 0) x1.toNatClampNeg) (lv' := [(2, va_rf (aQ M ((cQ M a0 1).getD 0) x1.toNatClampNeg)), (0, .ref a0), (1, .int x1)]) C d_Ns_clauseAt_22 (by decide) rfl ?_
      refine q_aload_n (r := aQ M ((cQ M a0 1).getD 0) x1.toNatClampNeg) C d_Ns_clauseAt_23 rfl ?_
      refine q_ifnull C 31 d_Ns_clauseAt_24 (by decide) (fun hc11 => ?_) (fun hc11 => ?_)
      · rw [if_pos hc11] at hF hS
        refine g_aload_n C d_Ns_clauseAt_31 rfl ?_
        obtain ⟨ho12, hS⟩ := hS
        refine c_getq C hE.1 (ci := 3) i_Ns rfl 3 (by decide) (by decide) (by decide) kf_Ns_33 d_Ns_clauseAt_32 ho12 ?_
        exact c_aret (M := M) C hr (Or.inl ⟨_, rfl⟩) hlocks hle d_Ns_clauseAt_35 (by rw [← hF]; exact ⟨rfl, rfl⟩)
      · rw [if_neg hc11] at hF hS
        refine q_aload_n (r := aQ M ((cQ M a0 1).getD 0) x1.toNatClampNeg) C d_Ns_clauseAt_27 rfl ?_
        refine g_goto C 35 d_Ns_clauseAt_28 (by decide) ?_
        exact c_aret (M := M) C hr (Or.inl ⟨_, rfl⟩) hlocks hle d_Ns_clauseAt_35 (by rw [← hF]; exact ⟨rfl, rfl⟩)
def F_Ns_makeReady (cs : Nat → ClassId) (M : gMem) (a0 : Nat) (x1 : Option Nat) : Int32 × gMem := mbind (F_Ns_hasRoomForClause cs M a0 ) (fun w3 => if w3 = 0 then (((cI M a0 5) - (cI M a0 6), M)) else (((cI (cP 3 (aPq (cs 4) M ((cQ M a0 1).getD 0) (cI M a0 5).toNatClampNeg x1) a0 5 (.int ((cI (aPq (cs 4) M ((cQ M a0 1).getD 0) (cI M a0 5).toNatClampNeg x1) a0 5) + 1))) a0 5) - (cI (cP 3 (aPq (cs 4) M ((cQ M a0 1).getD 0) (cI M a0 5).toNatClampNeg x1) a0 5 (.int ((cI (aPq (cs 4) M ((cQ M a0 1).getD 0) (cI M a0 5).toNatClampNeg x1) a0 5) + 1))) a0 6), cP 3 (aPq (cs 4) M ((cQ M a0 1).getD 0) (cI M a0 5).toNatClampNeg x1) a0 5 (.int ((cI (aPq (cs 4) M ((cQ M a0 1).getD 0) (cI M a0 5).toNatClampNeg x1) a0 5) + 1)))))
def S_Ns_makeReady (cs : Nat → ClassId) (lim : Nat × Nat) (M : gMem) (a0 : Nat) (x1 : Option Nat) : Prop := (cOk 3 M a0) ∧ ((S_Ns_hasRoomForClause cs lim M a0 ) ∧ (mbind (F_Ns_hasRoomForClause cs M a0 ) (fun w3 => if w3 = 0 then ((cOk 3 M a0) ∧ ((cOk 3 M a0) ∧ (True))) else ((cOk 3 M a0) ∧ ((cOk 3 M a0) ∧ ((cQ M a0 1 = some ((cQ M a0 1).getD 0) ∧ aQk (cs 4) M ((cQ M a0 1).getD 0)) ∧ ((vp_in (cI M a0 5) (aL M ((cQ M a0 1).getD 0))) ∧ ((x1 = none ∨ cOq 5 M x1) ∧ ((cOk 3 (aPq (cs 4) M ((cQ M a0 1).getD 0) (cI M a0 5).toNatClampNeg x1) a0) ∧ ((cOk 3 (aPq (cs 4) M ((cQ M a0 1).getD 0) (cI M a0 5).toNatClampNeg x1) a0) ∧ ((cOk 3 (cP 3 (aPq (cs 4) M ((cQ M a0 1).getD 0) (cI M a0 5).toNatClampNeg x1) a0 5 (.int ((cI (aPq (cs 4) M ((cQ M a0 1).getD 0) (cI M a0 5).toNatClampNeg x1) a0 5) + 1))) a0) ∧ ((cOk 3 (cP 3 (aPq (cs 4) M ((cQ M a0 1).getD 0) (cI M a0 5).toNatClampNeg x1) a0 5 (.int ((cI (aPq (cs 4) M ((cQ M a0 1).getD 0) (cI M a0 5).toNatClampNeg x1) a0 5) + 1))) a0) ∧ (True)))))))))))))
set_option maxRecDepth 100000 in
set_option maxHeartbeats 4000000 in
theorem cc_Ns_makeReady (l : Launch) (hf : l.flags = pinnedFlags ++ [noTraceFlag]) (D : va_G) (cs : Nat → ClassId) (B : Nat) (dE : Nat × Nat) (lim : Nat × Nat) (M : gMem) (a0 : Nat) (x1 : Option Nat) (hS : S_Ns_makeReady cs lim M a0 x1) : cMet l y_Ns_makeReady (Cond.code y_Ns_makeReady c_Ns_makeReady 2 (some .int)) (1) (20) D cs B dE (gA B) lim [.ref a0, va_rf x1] M (fun x M' => x = .inl (some (.int ((F_Ns_makeReady cs M a0 x1).1))) ∧ M' = (F_Ns_makeReady cs M a0 x1).2) := by
  refine cMet.ofW (by decide) (by cases x1 <;> exact Nat.le_of_ble_eq_true rfl) (lv0 := [(0, .ref a0), (1, va_rf x1)]) (by cases x1 <;> rfl) ?_
  intro p e s m args below meth c C hE hR0 hle hr hlocks hex hn
  generalize hF : F_Ns_makeReady cs M a0 x1 = Fv
  unfold F_Ns_makeReady at hF
  unfold S_Ns_makeReady at hS
  refine g_aload_n C d_Ns_makeReady_0 rfl ?_
  obtain ⟨ho1, hS⟩ := hS
  obtain ⟨hs2, hS⟩ := hS
  refine c_call (av := [.ref a0]) (rest := []) C hE (fun _ h => h.elim) ⟨rfl, rfl⟩ hle (cc_Ns_hasRoomForClause l hf D cs B dE lim _ a0  hs2) (fun _ h => h.elim) kd_Ns_hasRoomForClause ki_Ns (Nat.le_of_ble_eq_true rfl) (Nat.le_of_ble_eq_true rfl) d_Ns_makeReady_1 (Nat.le_of_ble_eq_true rfl) (c_fV (n := 0) (ci := 3) C hE.1 rfl km_Ns_51 kv_Ns_hasRoomForClause kl_Ns_hasRoomForClause kd_Ns_hasRoomForClause ⟨by decide, by decide, by decide⟩ rfl rfl d_Ns_makeReady_1 ho1) (fun v1 M1 hv hle => ?_) (fun E1 M1 hv hle => ?_)
  · rw [mbind_eq] at hF hS
    obtain ⟨hx, hM1⟩ := hv
    have hM2 := hM1.symm
    subst hM2
    generalize hq_w3 : F_Ns_hasRoomForClause cs M a0  = w3 at hF hS hx hle ⊢
    cases hx
    refine GW.eqs (st' := [.int w3]) rfl ?_
    refine g_if_eq C 27 d_Ns_makeReady_4 (by decide) (fun hc4 => ?_) (fun hc4 => ?_)
    · rw [if_pos hc4] at hF hS
      refine g_aload_n C d_Ns_makeReady_27 rfl ?_
      obtain ⟨ho5, hS⟩ := hS
      refine c_geti C hE.1 (ci := 3) i_Ns rfl 5 (by decide) (by decide) (by decide) kf_Ns_41 d_Ns_makeReady_28 ho5 ?_
      refine g_aload_n C d_Ns_makeReady_31 rfl ?_
      obtain ⟨ho6, hS⟩ := hS
      refine c_geti C hE.1 (ci := 3) i_Ns rfl 6 (by decide) (by decide) (by decide) kf_Ns_44 d_Ns_makeReady_32 ho6 ?_
      refine g_isub C d_Ns_makeReady_35 ?_
      refine GW.more (A' := gA B) (fun _ h => h.elim) ?_
      exact c_iret (M := M) C hr hlocks hle d_Ns_makeReady_36 (by rw [← hF]; exact ⟨rfl, rfl⟩)
    · rw [if_neg hc4] at hF hS
      refine g_aload_n C d_Ns_makeReady_7 rfl ?_
      obtain ⟨ho7, hS⟩ := hS
      refine c_getq C hE.1 (ci := 3) i_Ns rfl 1 (by decide) (by decide) (by decide) kf_Ns_19 d_Ns_makeReady_8 ho7 ?_
      refine g_aload_n C d_Ns_makeReady_11 rfl ?_
      obtain ⟨ho8, hS⟩ := hS
      refine c_geti C hE.1 (ci := 3) i_Ns rfl 5 (by decide) (by decide) (by decide) kf_Ns_41 d_Ns_makeReady_12 ho8 ?_
      refine q_aload_n (r := x1) C d_Ns_makeReady_15 rfl ?_
      refine GW.more (A' := gA B) (fun _ h => h.elim) ?_
      obtain ⟨ha9, hS⟩ := hS
      refine GW.known3 (a := (cQ M a0 1).getD 0) ha9.1 ?_
      obtain ⟨hi10, hS⟩ := hS
      obtain ⟨hv11, hS⟩ := hS
      refine k_aast (M0 := M) (M := M) C hE.1 4 rfl rfl d_Ns_makeReady_16 ha9.2 hv11 hi10 ?_
      replace hle := cLe.aPq (cA := cs 4) (a := (cQ M a0 1).getD 0) (i := (cI M a0 5).toNatClampNeg) (r := x1) hle
      refine g_aload_n C d_Ns_makeReady_17 rfl ?_
      refine g_dup C d_Ns_makeReady_18 rfl ?_
      obtain ⟨ho12, hS⟩ := hS
      refine c_geti C hE.1 (ci := 3) i_Ns rfl 5 (by decide) (by decide) (by decide) kf_Ns_41 d_Ns_makeReady_19 ho12 ?_
      refine g_iconst (v := 1) C d_Ns_makeReady_22 (by decide) ?_
      refine g_iadd C d_Ns_makeReady_23 ?_
      obtain ⟨ho13, hS⟩ := hS
      refine k_put (M0 := M) (M := aPq (cs 4) M ((cQ M a0 1).getD 0) (cI M a0 5).toNatClampNeg x1) C hE.1 (ci := 3) i_Ns rfl 5 (by decide) (by decide) kf_Ns_41 t_Ns t_Ns_ok n_Ns rfl (nf_i _) d_Ns_makeReady_24 ho13 ?_
      replace hle := cLe.cP (ci := 3) (a := a0) (k := 5) (v := .int ((cI (aPq (cs 4) M ((cQ M a0 1).getD 0) (cI M a0 5).toNatClampNeg x1) a0 5) + 1)) hle
      refine g_aload_n C d_Ns_makeReady_27 rfl ?_
      obtain ⟨ho14, hS⟩ := hS
      refine c_geti C hE.1 (ci := 3) i_Ns rfl 5 (by decide) (by decide) (by decide) kf_Ns_41 d_Ns_makeReady_28 ho14 ?_
      refine g_aload_n C d_Ns_makeReady_31 rfl ?_
      obtain ⟨ho15, hS⟩ := hS
      refine c_geti C hE.1 (ci := 3) i_Ns rfl 6 (by decide) (by decide) (by decide) kf_Ns_44 d_Ns_makeReady_32 ho15 ?_
      refine g_isub C d_Ns_makeReady_35 ?_
      exact c_iret (M := cP 3 (aPq (cs 4) M ((cQ M a0 1).getD 0) (cI M a0 5).toNatClampNeg x1) a0 5 (.int ((cI (aPq (cs 4) M ((cQ M a0 1).getD 0) (cI M a0 5).toNatClampNeg x1) a0 5) + 1))) C hr hlocks hle d_Ns_makeReady_36 (by rw [← hF]; exact ⟨rfl, rfl⟩)
  · cases hv.1
def F_Ns_giveReadyClauses (cs : Nat → ClassId) (M : gMem) (a0 : Nat) (x1 : Option Nat) : gMem := cP 3 (cP 4 (cP 4 M (x1.getD 0) 7 (.int (cI M a0 6))) (x1.getD 0) 8 (.int (cI (cP 4 M (x1.getD 0) 7 (.int (cI M a0 6))) a0 5))) a0 6 (.int (cI (cP 4 (cP 4 M (x1.getD 0) 7 (.int (cI M a0 6))) (x1.getD 0) 8 (.int (cI (cP 4 M (x1.getD 0) 7 (.int (cI M a0 6))) a0 5))) a0 5))
def S_Ns_giveReadyClauses (cs : Nat → ClassId) (lim : Nat × Nat) (M : gMem) (a0 : Nat) (x1 : Option Nat) : Prop := (cOk 3 M a0) ∧ ((cOq 4 M x1) ∧ ((cOk 3 (cP 4 M (x1.getD 0) 7 (.int (cI M a0 6))) a0) ∧ ((cOq 4 (cP 4 M (x1.getD 0) 7 (.int (cI M a0 6))) x1) ∧ ((cOk 3 (cP 4 (cP 4 M (x1.getD 0) 7 (.int (cI M a0 6))) (x1.getD 0) 8 (.int (cI (cP 4 M (x1.getD 0) 7 (.int (cI M a0 6))) a0 5))) a0) ∧ ((cOk 3 (cP 4 (cP 4 M (x1.getD 0) 7 (.int (cI M a0 6))) (x1.getD 0) 8 (.int (cI (cP 4 M (x1.getD 0) 7 (.int (cI M a0 6))) a0 5))) a0) ∧ (True))))))
set_option maxRecDepth 100000 in
set_option maxHeartbeats 4000000 in
theorem cc_Ns_giveReadyClauses (l : Launch) (hf : l.flags = pinnedFlags ++ [noTraceFlag]) (D : va_G) (cs : Nat → ClassId) (B : Nat) (dE : Nat × Nat) (lim : Nat × Nat) (M : gMem) (a0 : Nat) (x1 : Option Nat) (hS : S_Ns_giveReadyClauses cs lim M a0 x1) : cMet l y_Ns_giveReadyClauses (Cond.code y_Ns_giveReadyClauses c_Ns_giveReadyClauses 2 none) (0) (0) D cs B dE (gA B) lim [.ref a0, va_rf x1] M (fun x M' => x = .inl none ∧ M' = (F_Ns_giveReadyClauses cs M a0 x1)) := by
  refine cMet.ofW (by decide) (by cases x1 <;> exact Nat.le_of_ble_eq_true rfl) (lv0 := [(0, .ref a0), (1, va_rf x1)]) (by cases x1 <;> rfl) ?_
  intro p e s m args below meth c C hE hR0 hle hr hlocks hex hn
  generalize hF : F_Ns_giveReadyClauses cs M a0 x1 = Fv
  unfold F_Ns_giveReadyClauses at hF
  unfold S_Ns_giveReadyClauses at hS
  refine q_aload_n (r := x1) C d_Ns_giveReadyClauses_0 rfl ?_
  refine g_aload_n C d_Ns_giveReadyClauses_1 rfl ?_
  obtain ⟨ho1, hS⟩ := hS
  refine c_geti C hE.1 (ci := 3) i_Ns rfl 6 (by decide) (by decide) (by decide) kf_Ns_44 d_Ns_giveReadyClauses_2 ho1 ?_
  refine GW.more (A' := gA B) (fun _ h => h.elim) ?_
  obtain ⟨ho2, hS⟩ := hS
  refine GW.known2 (a := x1.getD 0) (cOq.at ho2).1 ?_
  refine k_put (M0 := M) (M := M) C hE.1 (ci := 4) i_No rfl 7 (by decide) (by decide) kf_Ns_55 t_No t_No_ok n_No rfl (nf_i _) d_Ns_giveReadyClauses_5 (cOq.at ho2).2 ?_
  replace hle := cLe.cP (ci := 4) (a := x1.getD 0) (k := 7) (v := .int (cI M a0 6)) hle
  refine q_aload_n (r := x1) C d_Ns_giveReadyClauses_8 rfl ?_
  refine g_aload_n C d_Ns_giveReadyClauses_9 rfl ?_
  obtain ⟨ho3, hS⟩ := hS
  refine c_geti C hE.1 (ci := 3) i_Ns rfl 5 (by decide) (by decide) (by decide) kf_Ns_41 d_Ns_giveReadyClauses_10 ho3 ?_
  obtain ⟨ho4, hS⟩ := hS
  refine GW.known2 (a := x1.getD 0) (cOq.at ho4).1 ?_
  refine k_put (M0 := M) (M := cP 4 M (x1.getD 0) 7 (.int (cI M a0 6))) C hE.1 (ci := 4) i_No rfl 8 (by decide) (by decide) kf_Ns_58 t_No t_No_ok n_No rfl (nf_i _) d_Ns_giveReadyClauses_13 (cOq.at ho4).2 ?_
  replace hle := cLe.cP (ci := 4) (a := x1.getD 0) (k := 8) (v := .int (cI (cP 4 M (x1.getD 0) 7 (.int (cI M a0 6))) a0 5)) hle
  refine g_aload_n C d_Ns_giveReadyClauses_16 rfl ?_
  refine g_aload_n C d_Ns_giveReadyClauses_17 rfl ?_
  obtain ⟨ho5, hS⟩ := hS
  refine c_geti C hE.1 (ci := 3) i_Ns rfl 5 (by decide) (by decide) (by decide) kf_Ns_41 d_Ns_giveReadyClauses_18 ho5 ?_
  obtain ⟨ho6, hS⟩ := hS
  refine k_put (M0 := M) (M := cP 4 (cP 4 M (x1.getD 0) 7 (.int (cI M a0 6))) (x1.getD 0) 8 (.int (cI (cP 4 M (x1.getD 0) 7 (.int (cI M a0 6))) a0 5))) C hE.1 (ci := 3) i_Ns rfl 6 (by decide) (by decide) kf_Ns_44 t_Ns t_Ns_ok n_Ns rfl (nf_i _) d_Ns_giveReadyClauses_21 ho6 ?_
  replace hle := cLe.cP (ci := 3) (a := a0) (k := 6) (v := .int (cI (cP 4 (cP 4 M (x1.getD 0) 7 (.int (cI M a0 6))) (x1.getD 0) 8 (.int (cI (cP 4 M (x1.getD 0) 7 (.int (cI M a0 6))) a0 5))) a0 5)) hle
  exact c_vret (M := cP 3 (cP 4 (cP 4 M (x1.getD 0) 7 (.int (cI M a0 6))) (x1.getD 0) 8 (.int (cI (cP 4 M (x1.getD 0) 7 (.int (cI M a0 6))) a0 5))) a0 6 (.int (cI (cP 4 (cP 4 M (x1.getD 0) 7 (.int (cI M a0 6))) (x1.getD 0) 8 (.int (cI (cP 4 M (x1.getD 0) 7 (.int (cI M a0 6))) a0 5))) a0 5))) C hr hlocks hle d_Ns_giveReadyClauses_24 (by rw [← hF]; exact ⟨rfl, rfl⟩)
def F_Ns_measure (cs : Nat → ClassId) (M : gMem) (a0 : Nat) (x1 : Option Nat) (x2 : Int32) : gMem := if x2 = (-1) then (M) else (mbind (F_Ns_at cs M a0 x2) (fun w5 => mbind ((if ((cI M (x1.getD 0) 9) + (cI M (w5.getD 0) 9)) < 100000 then (cI M (x1.getD 0) 9) + (cI M (w5.getD 0) 9) else 100000 : Int32)) (fun w7 => mbind (F_Ns_at cs (cP 4 M (x1.getD 0) 9 (.int w7)) a0 x2) (fun w12 => mbind ((if (cI (cP 4 M (x1.getD 0) 9 (.int w7)) (x1.getD 0) 10) < (1 + (cI (cP 4 M (x1.getD 0) 9 (.int w7)) (w12.getD 0) 10)) then 1 + (cI (cP 4 M (x1.getD 0) 9 (.int w7)) (w12.getD 0) 10) else cI (cP 4 M (x1.getD 0) 9 (.int w7)) (x1.getD 0) 10 : Int32)) (fun w14 => cP 4 (cP 4 M (x1.getD 0) 9 (.int w7)) (x1.getD 0) 10 (.int w14))))))
def S_Ns_measure (cs : Nat → ClassId) (lim : Nat × Nat) (M : gMem) (a0 : Nat) (x1 : Option Nat) (x2 : Int32) : Prop := if x2 = (-1) then (True) else ((cOq 4 M x1) ∧ ((cOk 3 M a0) ∧ ((S_Ns_at cs lim M a0 x2) ∧ (mbind (F_Ns_at cs M a0 x2) (fun w5 => (cOq 4 M w5) ∧ (mbind ((if ((cI M (x1.getD 0) 9) + (cI M (w5.getD 0) 9)) < 100000 then (cI M (x1.getD 0) 9) + (cI M (w5.getD 0) 9) else 100000 : Int32)) (fun w7 => (cOq 4 M x1) ∧ ((cOq 4 (cP 4 M (x1.getD 0) 9 (.int w7)) x1) ∧ ((cOk 3 (cP 4 M (x1.getD 0) 9 (.int w7)) a0) ∧ ((S_Ns_at cs lim (cP 4 M (x1.getD 0) 9 (.int w7)) a0 x2) ∧ (mbind (F_Ns_at cs (cP 4 M (x1.getD 0) 9 (.int w7)) a0 x2) (fun w12 => (cOq 4 (cP 4 M (x1.getD 0) 9 (.int w7)) w12) ∧ (mbind ((if (cI (cP 4 M (x1.getD 0) 9 (.int w7)) (x1.getD 0) 10) < (1 + (cI (cP 4 M (x1.getD 0) 9 (.int w7)) (w12.getD 0) 10)) then 1 + (cI (cP 4 M (x1.getD 0) 9 (.int w7)) (w12.getD 0) 10) else cI (cP 4 M (x1.getD 0) 9 (.int w7)) (x1.getD 0) 10 : Int32)) (fun w14 => (cOq 4 (cP 4 M (x1.getD 0) 9 (.int w7)) x1) ∧ (True)))))))))))))))
set_option maxRecDepth 100000 in
set_option maxHeartbeats 4000000 in
theorem cc_Ns_measure (l : Launch) (hf : l.flags = pinnedFlags ++ [noTraceFlag]) (D : va_G) (cs : Nat → ClassId) (B : Nat) (dE : Nat × Nat) (lim : Nat × Nat) (M : gMem) (a0 : Nat) (x1 : Option Nat) (x2 : Int32) (hS : S_Ns_measure cs lim M a0 x1 x2) : cMet l y_Ns_measure (Cond.code y_Ns_measure c_Ns_measure 3 none) (2) (43) D cs B dE (gA B) lim [.ref a0, va_rf x1, .int x2] M (fun x M' => x = .inl none ∧ M' = (F_Ns_measure cs M a0 x1 x2)) := by
  refine cMet.ofW (by decide) (by cases x1 <;> exact Nat.le_of_ble_eq_true rfl) (lv0 := [(0, .ref a0), (1, va_rf x1), (2, .int x2)]) (by cases x1 <;> rfl) ?_
  intro p e s m args below meth c C hE hR0 hle hr hlocks hex hn
  generalize hF : F_Ns_measure cs M a0 x1 x2 = Fv
  unfold F_Ns_measure at hF
  unfold S_Ns_measure at hS
  refine g_iload_n C d_Ns_measure_0 rfl ?_
  refine g_iconst (v := (-1)) C d_Ns_measure_1 (by decide) ?_
  refine g_icmp_ne C 6 d_Ns_measure_2 (by decide) (fun hc1 => ?_) (fun hc1 => ?_)
  · rw [if_neg hc1] at hF hS
    refine q_aload_n (r := x1) C d_Ns_measure_6 rfl ?_
    refine g_ldc C kk_Ns_84 d_Ns_measure_7 ?_
    refine q_aload_n (r := x1) C d_Ns_measure_9 rfl ?_
    obtain ⟨ho2, hS⟩ := hS
    refine GW.known1 (a := x1.getD 0) (cOq.at ho2).1 ?_
    refine c_geti C hE.1 (ci := 4) i_No rfl 9 (by decide) (by decide) (by decide) kf_Ns_85 d_Ns_measure_10 (cOq.at ho2).2 ?_
    refine g_aload_n C d_Ns_measure_13 rfl ?_
    refine g_iload_n C d_Ns_measure_14 rfl ?_
    obtain ⟨ho3, hS⟩ := hS
    obtain ⟨hs4, hS⟩ := hS
    refine c_call (av := [.ref a0, .int x2]) (rest := [.int (cI M (x1.getD 0) 9), .int 100000, va_rf x1]) C hE (fun _ h => h.elim) ⟨rfl, rfl⟩ hle (cc_Ns_at l hf D cs B dE lim _ a0 x2 hs4) (fun _ h => h.elim) kd_Ns_at ki_Ns (Nat.le_of_ble_eq_true rfl) (Nat.le_of_ble_eq_true rfl) d_Ns_measure_15 (by simp only [List.map_cons, List.map_nil, rf_cat, List.sum_cons, List.sum_nil]; exact Nat.le_of_ble_eq_true rfl) (c_fV (n := 1) (ci := 3) C hE.1 rfl km_Ns_88 kv_Ns_at kl_Ns_at kd_Ns_at ⟨by decide, by decide, by decide⟩ rfl rfl d_Ns_measure_15 ho3) (fun v1 M1 hv hle => ?_) (fun E1 M1 hv hle => ?_)
    · rw [mbind_eq] at hF hS
      obtain ⟨hx, hM1⟩ := hv
      have hM2 := hM1.symm
      subst hM2
      generalize hq_w5 : F_Ns_at cs M a0 x2 = w5 at hF hS hx hle ⊢
      cases hx
      refine GW.eqs (st' := [va_rf w5, .int (cI M (x1.getD 0) 9), .int 100000, va_rf x1]) rfl ?_
      obtain ⟨ho6, hS⟩ := hS
      refine GW.known1 (a := w5.getD 0) (cOq.at ho6).1 ?_
      refine c_geti C hE.1 (ci := 4) i_No rfl 9 (by decide) (by decide) (by decide) kf_Ns_85 d_Ns_measure_18 (cOq.at ho6).2 ?_
      refine g_iadd C d_Ns_measure_21 ?_
      refine c_mmin (M0 := M) (M := M) C ⟨rfl, rfl⟩ hle km_Ns_92 ks_Mt_min ki_Mt kx_mmin d_Ns_measure_22 (Nat.le_of_ble_eq_true rfl) (by simp only [List.map_cons, List.map_nil, rf_cat, List.sum_cons, List.sum_nil]; exact Nat.le_of_ble_eq_true rfl) ?_
      rw [mbind_eq] at hF hS
      generalize (if ((cI M (x1.getD 0) 9) + (cI M (w5.getD 0) 9)) < 100000 then (cI M (x1.getD 0) 9) + (cI M (w5.getD 0) 9) else 100000 : Int32) = w7 at hF hS ⊢
      refine GW.more (A' := gA B) (fun _ h => h.elim) ?_
      obtain ⟨ho8, hS⟩ := hS
      refine GW.known2 (a := x1.getD 0) (cOq.at ho8).1 ?_
      refine k_put (M0 := M) (M := M) C hE.1 (ci := 4) i_No rfl 9 (by decide) (by decide) kf_Ns_85 t_No t_No_ok n_No rfl (nf_i _) d_Ns_measure_25 (cOq.at ho8).2 ?_
      replace hle := cLe.cP (ci := 4) (a := x1.getD 0) (k := 9) (v := .int w7) hle
      refine q_aload_n (r := x1) C d_Ns_measure_28 rfl ?_
      refine q_aload_n (r := x1) C d_Ns_measure_29 rfl ?_
      obtain ⟨ho9, hS⟩ := hS
      refine GW.known1 (a := x1.getD 0) (cOq.at ho9).1 ?_
      refine c_geti C hE.1 (ci := 4) i_No rfl 10 (by decide) (by decide) (by decide) kf_Ns_98 d_Ns_measure_30 (cOq.at ho9).2 ?_
      refine g_iconst (v := 1) C d_Ns_measure_33 (by decide) ?_
      refine g_aload_n C d_Ns_measure_34 rfl ?_
      refine g_iload_n C d_Ns_measure_35 rfl ?_
      obtain ⟨ho10, hS⟩ := hS
      obtain ⟨hs11, hS⟩ := hS
      refine c_call (av := [.ref a0, .int x2]) (rest := [.int 1, .int (cI (cP 4 M (x1.getD 0) 9 (.int w7)) (x1.getD 0) 10), va_rf x1]) C hE (fun _ h => h) ⟨rfl, rfl⟩ hle (cc_Ns_at l hf D cs B dE lim _ a0 x2 hs11) (fun _ h => h.elim) kd_Ns_at ki_Ns (Nat.le_of_ble_eq_true rfl) (Nat.le_of_ble_eq_true rfl) d_Ns_measure_36 (by simp only [List.map_cons, List.map_nil, rf_cat, List.sum_cons, List.sum_nil]; exact Nat.le_of_ble_eq_true rfl) (c_fV (n := 1) (ci := 3) C hE.1 rfl km_Ns_88 kv_Ns_at kl_Ns_at kd_Ns_at ⟨by decide, by decide, by decide⟩ rfl rfl d_Ns_measure_36 ho10) (fun v1 M1 hv hle => ?_) (fun E1 M1 hv hle => ?_)
      · rw [mbind_eq] at hF hS
        obtain ⟨hx, hM1⟩ := hv
        have hM2 := hM1.symm
        subst hM2
        generalize hq_w12 : F_Ns_at cs (cP 4 M (x1.getD 0) 9 (.int w7)) a0 x2 = w12 at hF hS hx hle ⊢
        cases hx
        refine GW.eqs (st' := [va_rf w12, .int 1, .int (cI (cP 4 M (x1.getD 0) 9 (.int w7)) (x1.getD 0) 10), va_rf x1]) rfl ?_
        obtain ⟨ho13, hS⟩ := hS
        refine GW.known1 (a := w12.getD 0) (cOq.at ho13).1 ?_
        refine c_geti C hE.1 (ci := 4) i_No rfl 10 (by decide) (by decide) (by decide) kf_Ns_98 d_Ns_measure_39 (cOq.at ho13).2 ?_
        refine g_iadd C d_Ns_measure_42 ?_
        refine c_mmax (M0 := M) (M := cP 4 M (x1.getD 0) 9 (.int w7)) C ⟨rfl, rfl⟩ hle km_Ns_101 ks_Mt_max ki_Mt kx_mmax d_Ns_measure_43 (Nat.le_of_ble_eq_true rfl) (by simp only [List.map_cons, List.map_nil, rf_cat, List.sum_cons, List.sum_nil]; exact Nat.le_of_ble_eq_true rfl) ?_
        rw [mbind_eq] at hF hS
        generalize (if (cI (cP 4 M (x1.getD 0) 9 (.int w7)) (x1.getD 0) 10) < (1 + (cI (cP 4 M (x1.getD 0) 9 (.int w7)) (w12.getD 0) 10)) then 1 + (cI (cP 4 M (x1.getD 0) 9 (.int w7)) (w12.getD 0) 10) else cI (cP 4 M (x1.getD 0) 9 (.int w7)) (x1.getD 0) 10 : Int32) = w14 at hF hS ⊢
        obtain ⟨ho15, hS⟩ := hS
        refine GW.known2 (a := x1.getD 0) (cOq.at ho15).1 ?_
        refine k_put (M0 := M) (M := cP 4 M (x1.getD 0) 9 (.int w7)) C hE.1 (ci := 4) i_No rfl 10 (by decide) (by decide) kf_Ns_98 t_No t_No_ok n_No rfl (nf_i _) d_Ns_measure_46 (cOq.at ho15).2 ?_
        replace hle := cLe.cP (ci := 4) (a := x1.getD 0) (k := 10) (v := .int w14) hle
        exact c_vret (M := cP 4 (cP 4 M (x1.getD 0) 9 (.int w7)) (x1.getD 0) 10 (.int w14)) C hr hlocks hle d_Ns_measure_49 (by rw [← hF]; exact ⟨rfl, rfl⟩)
      · cases hv.1
    · cases hv.1
  · rw [if_pos hc1] at hF hS
    refine GW.more (A' := gA B) (fun _ h => h.elim) ?_
    exact c_vret (M := M) C hr hlocks hle d_Ns_measure_5 (by rw [← hF]; exact ⟨rfl, rfl⟩)
def F_Ns_add_41 (cs : Nat → ClassId) : Nat → gMem → Nat → Option Nat → Int32 → Int32 × gMem
  | 0, M, _, _, _ => (0, M)
  | n + 1, M, a0, x1, x2 => if (cI M (x1.getD 0) 8) ≤ x2 then (((cI (cP 3 (aPq (cs 3) M ((cQ M a0 0).getD 0) (cI M a0 4).toNatClampNeg x1) a0 4 (.int ((cI (aPq (cs 3) M ((cQ M a0 0).getD 0) (cI M a0 4).toNatClampNeg x1) a0 4) + 1))) a0 4) - 1, cP 3 (aPq (cs 3) M ((cQ M a0 0).getD 0) (cI M a0 4).toNatClampNeg x1) a0 4 (.int ((cI (aPq (cs 3) M ((cQ M a0 0).getD 0) (cI M a0 4).toNatClampNeg x1) a0 4) + 1)))) else (mbind (F_Ns_clauseAt cs M a0 x2) (fun w13 => mbind (F_Ns_measure cs M a0 x1 (cI M (w13.getD 0) 3)) (fun w17 => F_Ns_add_41 cs n w17 a0 x1 (x2 + 1))))
def S_Ns_add_41 (cs : Nat → ClassId) (lim : Nat × Nat) : Nat → gMem → Nat → Option Nat → Int32 → Prop
  | 0, _, _, _, _ => False
  | n + 1, M, a0, x1, x2 => (cOq 4 M x1) ∧ (if (cI M (x1.getD 0) 8) ≤ x2 then ((cOk 3 M a0) ∧ ((cOk 3 M a0) ∧ ((cQ M a0 0 = some ((cQ M a0 0).getD 0) ∧ aQk (cs 3) M ((cQ M a0 0).getD 0)) ∧ ((vp_in (cI M a0 4) (aL M ((cQ M a0 0).getD 0))) ∧ ((x1 = none ∨ cOq 4 M x1) ∧ ((cOk 3 (aPq (cs 3) M ((cQ M a0 0).getD 0) (cI M a0 4).toNatClampNeg x1) a0) ∧ ((cOk 3 (aPq (cs 3) M ((cQ M a0 0).getD 0) (cI M a0 4).toNatClampNeg x1) a0) ∧ ((cOk 3 (cP 3 (aPq (cs 3) M ((cQ M a0 0).getD 0) (cI M a0 4).toNatClampNeg x1) a0 4 (.int ((cI (aPq (cs 3) M ((cQ M a0 0).getD 0) (cI M a0 4).toNatClampNeg x1) a0 4) + 1))) a0) ∧ (True))))))))) else ((cOk 3 M a0) ∧ ((S_Ns_clauseAt cs lim M a0 x2) ∧ (mbind (F_Ns_clauseAt cs M a0 x2) (fun w13 => (cOq 5 M w13) ∧ ((cOk 3 M a0) ∧ ((S_Ns_measure cs lim M a0 x1 (cI M (w13.getD 0) 3)) ∧ (mbind (F_Ns_measure cs M a0 x1 (cI M (w13.getD 0) 3)) (fun w17 => S_Ns_add_41 cs lim n w17 a0 x1 (x2 + 1))))))))))
set_option maxRecDepth 100000 in
set_option maxHeartbeats 4000000 in
theorem w_Ns_add_41 {p : Program} {l : Launch} {e : Env} {s : State} {m : MethodId} {args : Array Value} {below : List Frame} {meth : Method} {c : Code} {D : va_G} {cs : Nat → ClassId} {B : Nat} {dE : Nat × Nat} {lim : Nat × Nat} {M0 : gMem} (C : CallFix p m c c_Ns_add 3 s args gT y_Ns_add.cls) (hE : gEnv D gcl (gtys cs) gz B dE s) (hf : l.flags = pinnedFlags ++ [noTraceFlag]) (hr : meth.sig.returnType = (some .int)) (hlocks : meth.locks = false) (hex : c.exceptionTable.isEmpty = true) (hn : meth.name = y_Ns_add.name) : ∀ (n : Nat) (M : gMem) (a0 : Nat) (x1 : Option Nat) (x2 : Int32) (Fv : Int32 × gMem) (hle : cLe lim M0 M) (hS : S_Ns_add_41 cs lim n M a0 x1 x2) (hF : F_Ns_add_41 cs n M a0 x1 x2 = Fv), GW p l e ({ frames := 3, cells := lim.1 - M0.2.1, slots := lim.2 - M0.2.2, locals := 65 } : Room) s m args below meth c 3 (gA B) (cQ0 below D B (gA B) lim M0 (fun x M' => x = .inl (some (.int Fv.1)) ∧ M' = Fv.2) args s) (gR D gcl B M) (M.2.1 - M0.2.1) (M.2.2 - M0.2.2) 41 [(0, .ref a0), (1, va_rf x1), (2, .int x2)] [] := by
  intro n
  induction n with
  | zero =>
    intro M a0 x1 x2 Fv hle hS hF
    exact hS.elim
  | succ n ih =>
    intro M a0 x1 x2 Fv hle hS hF
    simp only [S_Ns_add_41] at hS
    simp only [F_Ns_add_41] at hF
    refine g_iload_n C d_Ns_add_41 rfl ?_
    refine q_aload_n (r := x1) C d_Ns_add_42 rfl ?_
    obtain ⟨ho1, hS⟩ := hS
    refine GW.known1 (a := x1.getD 0) (cOq.at ho1).1 ?_
    refine c_geti C hE.1 (ci := 4) i_No rfl 8 (by decide) (by decide) (by decide) kf_Ns_58 d_Ns_add_43 (cOq.at ho1).2 ?_
    refine g_icmp_ge C 68 d_Ns_add_46 (by decide) (fun hc2 => ?_) (fun hc2 => ?_)
    · rw [if_pos hc2] at hF hS
      refine g_aload_n C d_Ns_add_68 rfl ?_
      obtain ⟨ho3, hS⟩ := hS
      refine c_getq C hE.1 (ci := 3) i_Ns rfl 0 (by decide) (by decide) (by decide) kf_Ns_11 d_Ns_add_69 ho3 ?_
      refine g_aload_n C d_Ns_add_72 rfl ?_
      obtain ⟨ho4, hS⟩ := hS
      refine c_geti C hE.1 (ci := 3) i_Ns rfl 4 (by decide) (by decide) (by decide) kf_Ns_37 d_Ns_add_73 ho4 ?_
      refine q_aload_n (r := x1) C d_Ns_add_76 rfl ?_
      obtain ⟨ha5, hS⟩ := hS
      refine GW.known3 (a := (cQ M a0 0).getD 0) ha5.1 ?_
      obtain ⟨hi6, hS⟩ := hS
      obtain ⟨hv7, hS⟩ := hS
      refine k_aast (M0 := M0) (M := M) C hE.1 3 rfl rfl d_Ns_add_77 ha5.2 hv7 hi6 ?_
      replace hle := cLe.aPq (cA := cs 3) (a := (cQ M a0 0).getD 0) (i := (cI M a0 4).toNatClampNeg) (r := x1) hle
      refine g_aload_n C d_Ns_add_78 rfl ?_
      refine g_dup C d_Ns_add_79 rfl ?_
      obtain ⟨ho8, hS⟩ := hS
      refine c_geti C hE.1 (ci := 3) i_Ns rfl 4 (by decide) (by decide) (by decide) kf_Ns_37 d_Ns_add_80 ho8 ?_
      refine g_iconst (v := 1) C d_Ns_add_83 (by decide) ?_
      refine g_iadd C d_Ns_add_84 ?_
      obtain ⟨ho9, hS⟩ := hS
      refine k_put (M0 := M0) (M := aPq (cs 3) M ((cQ M a0 0).getD 0) (cI M a0 4).toNatClampNeg x1) C hE.1 (ci := 3) i_Ns rfl 4 (by decide) (by decide) kf_Ns_37 t_Ns t_Ns_ok n_Ns rfl (nf_i _) d_Ns_add_85 ho9 ?_
      replace hle := cLe.cP (ci := 3) (a := a0) (k := 4) (v := .int ((cI (aPq (cs 3) M ((cQ M a0 0).getD 0) (cI M a0 4).toNatClampNeg x1) a0 4) + 1)) hle
      refine g_aload_n C d_Ns_add_88 rfl ?_
      obtain ⟨ho10, hS⟩ := hS
      refine c_geti C hE.1 (ci := 3) i_Ns rfl 4 (by decide) (by decide) (by decide) kf_Ns_37 d_Ns_add_89 ho10 ?_
      refine g_iconst (v := 1) C d_Ns_add_92 (by decide) ?_
      refine g_isub C d_Ns_add_93 ?_
      exact c_iret (M := cP 3 (aPq (cs 3) M ((cQ M a0 0).getD 0) (cI M a0 4).toNatClampNeg x1) a0 4 (.int ((cI (aPq (cs 3) M ((cQ M a0 0).getD 0) (cI M a0 4).toNatClampNeg x1) a0 4) + 1))) C hr hlocks hle d_Ns_add_94 (by rw [← hF]; exact ⟨rfl, rfl⟩)
    · rw [if_neg hc2] at hF hS
      refine g_aload_n C d_Ns_add_49 rfl ?_
      refine q_aload_n (r := x1) C d_Ns_add_50 rfl ?_
      refine g_aload_n C d_Ns_add_51 rfl ?_
      refine g_iload_n C d_Ns_add_52 rfl ?_
      obtain ⟨ho11, hS⟩ := hS
      obtain ⟨hs12, hS⟩ := hS
      refine c_call (av := [.ref a0, .int x2]) (rest := [va_rf x1, .ref a0]) C hE (fun _ h => h) ⟨rfl, rfl⟩ hle (cc_Ns_clauseAt l hf D cs B dE lim _ a0 x2 hs12) (fun _ h => h.elim) kd_Ns_clauseAt ki_Ns (Nat.le_of_ble_eq_true rfl) (Nat.le_of_ble_eq_true rfl) d_Ns_add_53 (by simp only [List.map_cons, List.map_nil, rf_cat, List.sum_cons, List.sum_nil]; exact Nat.le_of_ble_eq_true rfl) (c_fV (n := 1) (ci := 3) C hE.1 rfl km_Ns_77 kv_Ns_clauseAt kl_Ns_clauseAt kd_Ns_clauseAt ⟨by decide, by decide, by decide⟩ rfl rfl d_Ns_add_53 ho11) (fun v1 M1 hv hle => ?_) (fun E1 M1 hv hle => ?_)
      · rw [mbind_eq] at hF hS
        obtain ⟨hx, hM1⟩ := hv
        have hM2 := hM1.symm
        subst hM2
        generalize hq_w13 : F_Ns_clauseAt cs M a0 x2 = w13 at hF hS hx hle ⊢
        cases hx
        refine GW.eqs (st' := [va_rf w13, va_rf x1, .ref a0]) rfl ?_
        obtain ⟨ho14, hS⟩ := hS
        refine GW.known1 (a := w13.getD 0) (cOq.at ho14).1 ?_
        refine c_geti C hE.1 (ci := 5) i_Cl rfl 3 (by decide) (by decide) (by decide) kf_Ns_81 d_Ns_add_56 (cOq.at ho14).2 ?_
        obtain ⟨ho15, hS⟩ := hS
        obtain ⟨hs16, hS⟩ := hS
        refine c_call (av := [.ref a0, va_rf x1, .int (cI M (w13.getD 0) 3)]) (rest := []) C hE (fun _ h => h) ⟨rfl, rfl⟩ hle (cc_Ns_measure l hf D cs B dE lim _ a0 x1 (cI M (w13.getD 0) 3) hs16) (fun _ h => h) kd_Ns_measure ki_Ns (Nat.le_of_ble_eq_true rfl) (Nat.le_of_ble_eq_true rfl) d_Ns_add_59 (Nat.le_of_ble_eq_true rfl) (c_fV (n := 2) (ci := 3) C hE.1 rfl km_Ns_67 kv_Ns_measure kl_Ns_measure kd_Ns_measure ⟨by decide, by decide, by decide⟩ rfl rfl d_Ns_add_59 ho15) (fun v1 M1 hv hle => ?_) (fun E1 M1 hv hle => ?_)
        · rw [mbind_eq] at hF hS
          obtain ⟨hx, hM1⟩ := hv
          have hM2 := hM1.symm
          subst hM2
          generalize hq_w17 : F_Ns_measure cs M a0 x1 (cI M (w13.getD 0) 3) = w17 at hF hS hx hle ⊢
          cases hx
          refine GW.eqs (st' := []) rfl ?_
          refine g_iinc (v := x2 + 1) (lv' := [(2, .int (x2 + 1)), (0, .ref a0), (1, va_rf x1)]) C d_Ns_add_62 rfl rfl (by decide) (by first | rfl | (simp only [lvs, List.filter, rf_cat]; rfl) | simp [lvs, List.filter, rf_cat]) ?_
          refine g_goto C 41 d_Ns_add_65 (by decide) ?_
          refine GW.subl [1, 2, 0] rfl ?_
          exact ih w17 a0 x1 (x2 + 1) Fv hle hS hF
        · cases hv.1
      · cases hv.1
def F_Ns_add (cs : Nat → ClassId) (n : Nat) (M : gMem) (a0 : Nat) (x1 : Option Nat) : Int32 × gMem := mbind (F_Ns_hasRoom cs M a0 ) (fun w3 => if w3 = 0 then (((-1), M)) else (mbind (F_Ns_measure cs M a0 x1 (cI M (x1.getD 0) 4)) (fun w8 => mbind (F_Ns_measure cs w8 a0 x1 (cI w8 (x1.getD 0) 5)) (fun w12 => mbind (F_Ns_measure cs w12 a0 x1 (cI w12 (x1.getD 0) 6)) (fun w16 => F_Ns_add_41 cs n w16 a0 x1 (cI w16 (x1.getD 0) 7))))))
def S_Ns_add (cs : Nat → ClassId) (lim : Nat × Nat) (n : Nat) (M : gMem) (a0 : Nat) (x1 : Option Nat) : Prop := (cOk 3 M a0) ∧ ((S_Ns_hasRoom cs lim M a0 ) ∧ (mbind (F_Ns_hasRoom cs M a0 ) (fun w3 => if w3 = 0 then (True) else ((cOq 4 M x1) ∧ ((cOk 3 M a0) ∧ ((S_Ns_measure cs lim M a0 x1 (cI M (x1.getD 0) 4)) ∧ (mbind (F_Ns_measure cs M a0 x1 (cI M (x1.getD 0) 4)) (fun w8 => (cOq 4 w8 x1) ∧ ((cOk 3 w8 a0) ∧ ((S_Ns_measure cs lim w8 a0 x1 (cI w8 (x1.getD 0) 5)) ∧ (mbind (F_Ns_measure cs w8 a0 x1 (cI w8 (x1.getD 0) 5)) (fun w12 => (cOq 4 w12 x1) ∧ ((cOk 3 w12 a0) ∧ ((S_Ns_measure cs lim w12 a0 x1 (cI w12 (x1.getD 0) 6)) ∧ (mbind (F_Ns_measure cs w12 a0 x1 (cI w12 (x1.getD 0) 6)) (fun w16 => (cOq 4 w16 x1) ∧ (S_Ns_add_41 cs lim n w16 a0 x1 (cI w16 (x1.getD 0) 7))))))))))))))))))
set_option maxRecDepth 100000 in
set_option maxHeartbeats 4000000 in
theorem cc_Ns_add (l : Launch) (hf : l.flags = pinnedFlags ++ [noTraceFlag]) (D : va_G) (cs : Nat → ClassId) (B : Nat) (dE : Nat × Nat) (lim : Nat × Nat) (n : Nat) (M : gMem) (a0 : Nat) (x1 : Option Nat) (hS : S_Ns_add cs lim n M a0 x1) : cMet l y_Ns_add (Cond.code y_Ns_add c_Ns_add 3 (some .int)) (3) (65) D cs B dE (gA B) lim [.ref a0, va_rf x1] M (fun x M' => x = .inl (some (.int ((F_Ns_add cs n M a0 x1).1))) ∧ M' = (F_Ns_add cs n M a0 x1).2) := by
  refine cMet.ofW (by decide) (by cases x1 <;> exact Nat.le_of_ble_eq_true rfl) (lv0 := [(0, .ref a0), (1, va_rf x1)]) (by cases x1 <;> rfl) ?_
  intro p e s m args below meth c C hE hR0 hle hr hlocks hex hn
  generalize hF : F_Ns_add cs n M a0 x1 = Fv
  unfold F_Ns_add at hF
  unfold S_Ns_add at hS
  refine g_aload_n C d_Ns_add_0 rfl ?_
  obtain ⟨ho1, hS⟩ := hS
  obtain ⟨hs2, hS⟩ := hS
  refine c_call (av := [.ref a0]) (rest := []) C hE (fun _ h => h.elim) ⟨rfl, rfl⟩ hle (cc_Ns_hasRoom l hf D cs B dE lim _ a0  hs2) (fun _ h => h.elim) kd_Ns_hasRoom ki_Ns (Nat.le_of_ble_eq_true rfl) (Nat.le_of_ble_eq_true rfl) d_Ns_add_1 (Nat.le_of_ble_eq_true rfl) (c_fV (n := 0) (ci := 3) C hE.1 rfl km_Ns_61 kv_Ns_hasRoom kl_Ns_hasRoom kd_Ns_hasRoom ⟨by decide, by decide, by decide⟩ rfl rfl d_Ns_add_1 ho1) (fun v1 M1 hv hle => ?_) (fun E1 M1 hv hle => ?_)
  · rw [mbind_eq] at hF hS
    obtain ⟨hx, hM1⟩ := hv
    have hM2 := hM1.symm
    subst hM2
    generalize hq_w3 : F_Ns_hasRoom cs M a0  = w3 at hF hS hx hle ⊢
    cases hx
    refine GW.eqs (st' := [.int w3]) rfl ?_
    refine g_if_ne C 9 d_Ns_add_4 (by decide) (fun hc4 => ?_) (fun hc4 => ?_)
    · rw [if_neg hc4] at hF hS
      refine g_aload_n C d_Ns_add_9 rfl ?_
      refine q_aload_n (r := x1) C d_Ns_add_10 rfl ?_
      refine q_aload_n (r := x1) C d_Ns_add_11 rfl ?_
      obtain ⟨ho5, hS⟩ := hS
      refine GW.known1 (a := x1.getD 0) (cOq.at ho5).1 ?_
      refine c_geti C hE.1 (ci := 4) i_No rfl 4 (by decide) (by decide) (by decide) kf_Ns_64 d_Ns_add_12 (cOq.at ho5).2 ?_
      refine GW.more (A' := gA B) (fun _ h => h.elim) ?_
      obtain ⟨ho6, hS⟩ := hS
      obtain ⟨hs7, hS⟩ := hS
      refine c_call (av := [.ref a0, va_rf x1, .int (cI M (x1.getD 0) 4)]) (rest := []) C hE (fun _ h => h) ⟨rfl, rfl⟩ hle (cc_Ns_measure l hf D cs B dE lim _ a0 x1 (cI M (x1.getD 0) 4) hs7) (fun _ h => h) kd_Ns_measure ki_Ns (Nat.le_of_ble_eq_true rfl) (Nat.le_of_ble_eq_true rfl) d_Ns_add_15 (Nat.le_of_ble_eq_true rfl) (c_fV (n := 2) (ci := 3) C hE.1 rfl km_Ns_67 kv_Ns_measure kl_Ns_measure kd_Ns_measure ⟨by decide, by decide, by decide⟩ rfl rfl d_Ns_add_15 ho6) (fun v1 M1 hv hle => ?_) (fun E1 M1 hv hle => ?_)
      · rw [mbind_eq] at hF hS
        obtain ⟨hx, hM1⟩ := hv
        have hM2 := hM1.symm
        subst hM2
        generalize hq_w8 : F_Ns_measure cs M a0 x1 (cI M (x1.getD 0) 4) = w8 at hF hS hx hle ⊢
        cases hx
        refine GW.eqs (st' := []) rfl ?_
        refine g_aload_n C d_Ns_add_18 rfl ?_
        refine q_aload_n (r := x1) C d_Ns_add_19 rfl ?_
        refine q_aload_n (r := x1) C d_Ns_add_20 rfl ?_
        obtain ⟨ho9, hS⟩ := hS
        refine GW.known1 (a := x1.getD 0) (cOq.at ho9).1 ?_
        refine c_geti C hE.1 (ci := 4) i_No rfl 5 (by decide) (by decide) (by decide) kf_Ns_71 d_Ns_add_21 (cOq.at ho9).2 ?_
        obtain ⟨ho10, hS⟩ := hS
        obtain ⟨hs11, hS⟩ := hS
        refine c_call (av := [.ref a0, va_rf x1, .int (cI w8 (x1.getD 0) 5)]) (rest := []) C hE (fun _ h => h) ⟨rfl, rfl⟩ hle (cc_Ns_measure l hf D cs B dE lim _ a0 x1 (cI w8 (x1.getD 0) 5) hs11) (fun _ h => h) kd_Ns_measure ki_Ns (Nat.le_of_ble_eq_true rfl) (Nat.le_of_ble_eq_true rfl) d_Ns_add_24 (Nat.le_of_ble_eq_true rfl) (c_fV (n := 2) (ci := 3) C hE.1 rfl km_Ns_67 kv_Ns_measure kl_Ns_measure kd_Ns_measure ⟨by decide, by decide, by decide⟩ rfl rfl d_Ns_add_24 ho10) (fun v1 M1 hv hle => ?_) (fun E1 M1 hv hle => ?_)
        · rw [mbind_eq] at hF hS
          obtain ⟨hx, hM1⟩ := hv
          have hM2 := hM1.symm
          subst hM2
          generalize hq_w12 : F_Ns_measure cs w8 a0 x1 (cI w8 (x1.getD 0) 5) = w12 at hF hS hx hle ⊢
          cases hx
          refine GW.eqs (st' := []) rfl ?_
          refine g_aload_n C d_Ns_add_27 rfl ?_
          refine q_aload_n (r := x1) C d_Ns_add_28 rfl ?_
          refine q_aload_n (r := x1) C d_Ns_add_29 rfl ?_
          obtain ⟨ho13, hS⟩ := hS
          refine GW.known1 (a := x1.getD 0) (cOq.at ho13).1 ?_
          refine c_geti C hE.1 (ci := 4) i_No rfl 6 (by decide) (by decide) (by decide) kf_Ns_74 d_Ns_add_30 (cOq.at ho13).2 ?_
          obtain ⟨ho14, hS⟩ := hS
          obtain ⟨hs15, hS⟩ := hS
          refine c_call (av := [.ref a0, va_rf x1, .int (cI w12 (x1.getD 0) 6)]) (rest := []) C hE (fun _ h => h) ⟨rfl, rfl⟩ hle (cc_Ns_measure l hf D cs B dE lim _ a0 x1 (cI w12 (x1.getD 0) 6) hs15) (fun _ h => h) kd_Ns_measure ki_Ns (Nat.le_of_ble_eq_true rfl) (Nat.le_of_ble_eq_true rfl) d_Ns_add_33 (Nat.le_of_ble_eq_true rfl) (c_fV (n := 2) (ci := 3) C hE.1 rfl km_Ns_67 kv_Ns_measure kl_Ns_measure kd_Ns_measure ⟨by decide, by decide, by decide⟩ rfl rfl d_Ns_add_33 ho14) (fun v1 M1 hv hle => ?_) (fun E1 M1 hv hle => ?_)
          · rw [mbind_eq] at hF hS
            obtain ⟨hx, hM1⟩ := hv
            have hM2 := hM1.symm
            subst hM2
            generalize hq_w16 : F_Ns_measure cs w12 a0 x1 (cI w12 (x1.getD 0) 6) = w16 at hF hS hx hle ⊢
            cases hx
            refine GW.eqs (st' := []) rfl ?_
            refine q_aload_n (r := x1) C d_Ns_add_36 rfl ?_
            obtain ⟨ho17, hS⟩ := hS
            refine GW.known1 (a := x1.getD 0) (cOq.at ho17).1 ?_
            refine c_geti C hE.1 (ci := 4) i_No rfl 7 (by decide) (by decide) (by decide) kf_Ns_55 d_Ns_add_37 (cOq.at ho17).2 ?_
            refine g_istore_n (lv' := [(2, .int (cI w16 (x1.getD 0) 7)), (0, .ref a0), (1, va_rf x1)]) C d_Ns_add_40 (by decide) (by first | rfl | (simp only [lvs, List.filter, rf_cat]; rfl) | simp [lvs, List.filter, rf_cat]) ?_
            refine GW.subl [1, 2, 0] rfl ?_
            exact w_Ns_add_41 C hE hf hr hlocks hex hn n w16 a0 x1 (cI w16 (x1.getD 0) 7) Fv hle hS hF
          · cases hv.1
        · cases hv.1
      · cases hv.1
    · rw [if_pos hc4] at hF hS
      refine g_iconst (v := (-1)) C d_Ns_add_7 (by decide) ?_
      refine GW.more (A' := gA B) (fun _ h => h.elim) ?_
      exact c_iret (M := M) C hr hlocks hle d_Ns_add_8 (by rw [← hF]; exact ⟨rfl, rfl⟩)
  · cases hv.1
def F_Ck_init (cs : Nat → ClassId) (M : gMem) (a0 : Nat) (x1 : Option Nat) (x2 : Option Nat) (x3 : Option Nat) (x4 : Option Nat) : gMem := cP 6 (cP 6 (cP 6 (cP 6 (cP 6 (cP 6 (gnw M (1, .inl (cs 0, (10 : Int32).toNatClampNeg, .inl (fun _ => 0))) (10 : Int32).toNatClampNeg) a0 4 (va_rf (some M.2.1))) a0 0 (va_rf x1)) a0 1 (va_rf x2)) a0 2 (va_rf x3)) a0 3 (va_rf x4)) a0 6 (.int (-1))
def S_Ck_init (cs : Nat → ClassId) (lim : Nat × Nat) (M : gMem) (a0 : Nat) (x1 : Option Nat) (x2 : Option Nat) (x3 : Option Nat) (x4 : Option Nat) : Prop := ((¬ (10 : Int32) < 0 ∧ (10 : Int32).toNatClampNeg * 4 ≤ 536870912) ∧ M.2.1 + 1 ≤ lim.1 ∧ M.2.2 + (10 : Int32).toNatClampNeg ≤ lim.2) ∧ ((cOk 6 (gnw M (1, .inl (cs 0, (10 : Int32).toNatClampNeg, .inl (fun _ => 0))) (10 : Int32).toNatClampNeg) a0) ∧ ((cOk 6 (cP 6 (gnw M (1, .inl (cs 0, (10 : Int32).toNatClampNeg, .inl (fun _ => 0))) (10 : Int32).toNatClampNeg) a0 4 (va_rf (some M.2.1))) a0) ∧ ((cOk 6 (cP 6 (cP 6 (gnw M (1, .inl (cs 0, (10 : Int32).toNatClampNeg, .inl (fun _ => 0))) (10 : Int32).toNatClampNeg) a0 4 (va_rf (some M.2.1))) a0 0 (va_rf x1)) a0) ∧ ((cOk 6 (cP 6 (cP 6 (cP 6 (gnw M (1, .inl (cs 0, (10 : Int32).toNatClampNeg, .inl (fun _ => 0))) (10 : Int32).toNatClampNeg) a0 4 (va_rf (some M.2.1))) a0 0 (va_rf x1)) a0 1 (va_rf x2)) a0) ∧ ((cOk 6 (cP 6 (cP 6 (cP 6 (cP 6 (gnw M (1, .inl (cs 0, (10 : Int32).toNatClampNeg, .inl (fun _ => 0))) (10 : Int32).toNatClampNeg) a0 4 (va_rf (some M.2.1))) a0 0 (va_rf x1)) a0 1 (va_rf x2)) a0 2 (va_rf x3)) a0) ∧ ((cOk 6 (cP 6 (cP 6 (cP 6 (cP 6 (cP 6 (gnw M (1, .inl (cs 0, (10 : Int32).toNatClampNeg, .inl (fun _ => 0))) (10 : Int32).toNatClampNeg) a0 4 (va_rf (some M.2.1))) a0 0 (va_rf x1)) a0 1 (va_rf x2)) a0 2 (va_rf x3)) a0 3 (va_rf x4)) a0) ∧ (True)))))))
set_option maxRecDepth 100000 in
set_option maxHeartbeats 4000000 in
theorem cc_Ck_init (l : Launch) (hf : l.flags = pinnedFlags ++ [noTraceFlag]) (D : va_G) (cs : Nat → ClassId) (B : Nat) (dE : Nat × Nat) (lim : Nat × Nat) (M : gMem) (a0 : Nat) (x1 : Option Nat) (x2 : Option Nat) (x3 : Option Nat) (x4 : Option Nat) (hS : S_Ck_init cs lim M a0 x1 x2 x3 x4) : cMet l y_Ck_init (Cond.code y_Ck_init c_Ck_init 5 none) (1) (20) D cs B dE (gA B) lim [.ref a0, va_rf x1, va_rf x2, va_rf x3, va_rf x4] M (fun x M' => x = .inl none ∧ M' = (F_Ck_init cs M a0 x1 x2 x3 x4)) := by
  refine cMet.ofW (by decide) (by cases x1 <;> cases x2 <;> cases x3 <;> cases x4 <;> exact Nat.le_of_ble_eq_true rfl) (lv0 := [(0, .ref a0), (1, va_rf x1), (2, va_rf x2), (3, va_rf x3), (4, va_rf x4)]) (by cases x1 <;> cases x2 <;> cases x3 <;> cases x4 <;> rfl) ?_
  intro p e s m args below meth c C hE hR0 hle hr hlocks hex hn
  generalize hF : F_Ck_init cs M a0 x1 x2 x3 x4 = Fv
  unfold F_Ck_init at hF
  unfold S_Ck_init at hS
  refine g_aload_n C d_Ck_init_0 rfl ?_
  refine g_objInit C km_Ck_3 kv_Ob_init kd_Ob_init d_Ck_init_1 (Nat.le_of_ble_eq_true rfl) (Nat.le_of_ble_eq_true rfl) ?_
  refine g_aload_n C d_Ck_init_4 rfl ?_
  refine g_bipush (v := 10) C d_Ck_init_5 (by decide) ?_
  refine GW.more (A' := gA B) (fun _ h => h.elim) ?_
  obtain ⟨hl1, hS⟩ := hS
  refine c_newi (M0 := M) (M := M) C hE.1 ⟨rfl, rfl⟩ hle hl1.1.1 hl1.1.2 d_Ck_init_7 hl1.2 (fun hle => ?_)
  obtain ⟨ho3, hS⟩ := hS
  refine GW.eqs (st' := [va_rf (some M.2.1), .ref a0]) rfl ?_
  refine k_putF (M0 := M) (M := gnw M (1, .inl (cs 0, (10 : Int32).toNatClampNeg, .inl (fun _ => 0))) (10 : Int32).toNatClampNeg) C hE.1 (ci := 6) i_Ck rfl 4 (by decide) (by decide) kf_Ck_9 t_Ck t_Ck_ok n_Ck rfl hn rfl (nf_q _ (Or.inr ⟨_, rfl⟩) _) d_Ck_init_9 ho3 ?_
  replace hle := cLe.cP (ci := 6) (a := a0) (k := 4) (v := va_rf (some M.2.1)) hle
  refine g_aload_n C d_Ck_init_12 rfl ?_
  refine q_aload_n (r := x1) C d_Ck_init_13 rfl ?_
  obtain ⟨ho4, hS⟩ := hS
  refine k_putF (M0 := M) (M := cP 6 (gnw M (1, .inl (cs 0, (10 : Int32).toNatClampNeg, .inl (fun _ => 0))) (10 : Int32).toNatClampNeg) a0 4 (va_rf (some M.2.1))) C hE.1 (ci := 6) i_Ck rfl 0 (by decide) (by decide) kf_Ck_15 t_Ck t_Ck_ok n_Ck rfl hn rfl (nf_q _ (Or.inl ⟨_, rfl⟩) _) d_Ck_init_14 ho4 ?_
  replace hle := cLe.cP (ci := 6) (a := a0) (k := 0) (v := va_rf x1) hle
  refine g_aload_n C d_Ck_init_17 rfl ?_
  refine q_aload_n (r := x2) C d_Ck_init_18 rfl ?_
  obtain ⟨ho5, hS⟩ := hS
  refine k_putF (M0 := M) (M := cP 6 (cP 6 (gnw M (1, .inl (cs 0, (10 : Int32).toNatClampNeg, .inl (fun _ => 0))) (10 : Int32).toNatClampNeg) a0 4 (va_rf (some M.2.1))) a0 0 (va_rf x1)) C hE.1 (ci := 6) i_Ck rfl 1 (by decide) (by decide) kf_Ck_19 t_Ck t_Ck_ok n_Ck rfl hn rfl (nf_q _ (Or.inl ⟨_, rfl⟩) _) d_Ck_init_19 ho5 ?_
  replace hle := cLe.cP (ci := 6) (a := a0) (k := 1) (v := va_rf x2) hle
  refine g_aload_n C d_Ck_init_22 rfl ?_
  refine q_aload_n (r := x3) C d_Ck_init_23 rfl ?_
  obtain ⟨ho6, hS⟩ := hS
  refine k_putF (M0 := M) (M := cP 6 (cP 6 (cP 6 (gnw M (1, .inl (cs 0, (10 : Int32).toNatClampNeg, .inl (fun _ => 0))) (10 : Int32).toNatClampNeg) a0 4 (va_rf (some M.2.1))) a0 0 (va_rf x1)) a0 1 (va_rf x2)) C hE.1 (ci := 6) i_Ck rfl 2 (by decide) (by decide) kf_Ck_23 t_Ck t_Ck_ok n_Ck rfl hn rfl (nf_q _ (Or.inr ⟨_, rfl⟩) _) d_Ck_init_24 ho6 ?_
  replace hle := cLe.cP (ci := 6) (a := a0) (k := 2) (v := va_rf x3) hle
  refine g_aload_n C d_Ck_init_27 rfl ?_
  refine q_aload (r := x4) C d_Ck_init_28 rfl ?_
  obtain ⟨ho7, hS⟩ := hS
  refine k_putF (M0 := M) (M := cP 6 (cP 6 (cP 6 (cP 6 (gnw M (1, .inl (cs 0, (10 : Int32).toNatClampNeg, .inl (fun _ => 0))) (10 : Int32).toNatClampNeg) a0 4 (va_rf (some M.2.1))) a0 0 (va_rf x1)) a0 1 (va_rf x2)) a0 2 (va_rf x3)) C hE.1 (ci := 6) i_Ck rfl 3 (by decide) (by decide) kf_Ck_26 t_Ck t_Ck_ok n_Ck rfl hn rfl (nf_q _ (Or.inr ⟨_, rfl⟩) _) d_Ck_init_30 ho7 ?_
  replace hle := cLe.cP (ci := 6) (a := a0) (k := 3) (v := va_rf x4) hle
  refine g_aload_n C d_Ck_init_33 rfl ?_
  refine g_iconst (v := (-1)) C d_Ck_init_34 (by decide) ?_
  obtain ⟨ho8, hS⟩ := hS
  refine k_put (M0 := M) (M := cP 6 (cP 6 (cP 6 (cP 6 (cP 6 (gnw M (1, .inl (cs 0, (10 : Int32).toNatClampNeg, .inl (fun _ => 0))) (10 : Int32).toNatClampNeg) a0 4 (va_rf (some M.2.1))) a0 0 (va_rf x1)) a0 1 (va_rf x2)) a0 2 (va_rf x3)) a0 3 (va_rf x4)) C hE.1 (ci := 6) i_Ck rfl 6 (by decide) (by decide) kf_Ck_29 t_Ck t_Ck_ok n_Ck rfl (nf_i _) d_Ck_init_35 ho8 ?_
  replace hle := cLe.cP (ci := 6) (a := a0) (k := 6) (v := .int (-1)) hle
  exact c_vret (M := cP 6 (cP 6 (cP 6 (cP 6 (cP 6 (cP 6 (gnw M (1, .inl (cs 0, (10 : Int32).toNatClampNeg, .inl (fun _ => 0))) (10 : Int32).toNatClampNeg) a0 4 (va_rf (some M.2.1))) a0 0 (va_rf x1)) a0 1 (va_rf x2)) a0 2 (va_rf x3)) a0 3 (va_rf x4)) a0 6 (.int (-1))) C hr hlocks hle d_Ck_init_38 (by rw [← hF]; exact ⟨rfl, rfl⟩)
def F_Ck_forget (cs : Nat → ClassId) (M : gMem) (a0 : Nat) : gMem := cP 6 (cP 6 (cP 6 M a0 5 (.int 0)) a0 6 (.int (-1))) a0 7 (.int 0)
def S_Ck_forget (cs : Nat → ClassId) (lim : Nat × Nat) (M : gMem) (a0 : Nat) : Prop := (cOk 6 M a0) ∧ ((cOk 6 (cP 6 M a0 5 (.int 0)) a0) ∧ ((cOk 6 (cP 6 (cP 6 M a0 5 (.int 0)) a0 6 (.int (-1))) a0) ∧ (True)))
set_option maxRecDepth 100000 in
set_option maxHeartbeats 4000000 in
theorem cc_Ck_forget (l : Launch) (hf : l.flags = pinnedFlags ++ [noTraceFlag]) (D : va_G) (cs : Nat → ClassId) (B : Nat) (dE : Nat × Nat) (lim : Nat × Nat) (M : gMem) (a0 : Nat) (hS : S_Ck_forget cs lim M a0) : cMet l y_Ck_forget (Cond.code y_Ck_forget c_Ck_forget 1 none) (0) (0) D cs B dE (gA B) lim [.ref a0] M (fun x M' => x = .inl none ∧ M' = (F_Ck_forget cs M a0)) := by
  refine cMet.ofW (by decide) (Nat.le_of_ble_eq_true rfl) (lv0 := [(0, .ref a0)]) rfl ?_
  intro p e s m args below meth c C hE hR0 hle hr hlocks hex hn
  generalize hF : F_Ck_forget cs M a0 = Fv
  unfold F_Ck_forget at hF
  unfold S_Ck_forget at hS
  refine g_aload_n C d_Ck_forget_0 rfl ?_
  refine g_iconst (v := 0) C d_Ck_forget_1 (by decide) ?_
  refine GW.more (A' := gA B) (fun _ h => h.elim) ?_
  obtain ⟨ho1, hS⟩ := hS
  refine k_put (M0 := M) (M := M) C hE.1 (ci := 6) i_Ck rfl 5 (by decide) (by decide) kf_Ck_33 t_Ck t_Ck_ok n_Ck rfl (nf_i _) d_Ck_forget_2 ho1 ?_
  replace hle := cLe.cP (ci := 6) (a := a0) (k := 5) (v := .int 0) hle
  refine g_aload_n C d_Ck_forget_5 rfl ?_
  refine g_iconst (v := (-1)) C d_Ck_forget_6 (by decide) ?_
  obtain ⟨ho2, hS⟩ := hS
  refine k_put (M0 := M) (M := cP 6 M a0 5 (.int 0)) C hE.1 (ci := 6) i_Ck rfl 6 (by decide) (by decide) kf_Ck_29 t_Ck t_Ck_ok n_Ck rfl (nf_i _) d_Ck_forget_7 ho2 ?_
  replace hle := cLe.cP (ci := 6) (a := a0) (k := 6) (v := .int (-1)) hle
  refine g_aload_n C d_Ck_forget_10 rfl ?_
  refine g_iconst (v := 0) C d_Ck_forget_11 (by decide) ?_
  obtain ⟨ho3, hS⟩ := hS
  refine k_put (M0 := M) (M := cP 6 (cP 6 M a0 5 (.int 0)) a0 6 (.int (-1))) C hE.1 (ci := 6) i_Ck rfl 7 (by decide) (by decide) kf_Ck_36 t_Ck t_Ck_ok n_Ck rfl (nf_i _) d_Ck_forget_12 ho3 ?_
  replace hle := cLe.cP (ci := 6) (a := a0) (k := 7) (v := .int 0) hle
  exact c_vret (M := cP 6 (cP 6 (cP 6 M a0 5 (.int 0)) a0 6 (.int (-1))) a0 7 (.int 0)) C hr hlocks hle d_Ck_forget_15 (by rw [← hF]; exact ⟨rfl, rfl⟩)
def F_Ar_fill_5 (cs : Nat → ClassId) : Nat → gMem → Option Nat → Int32 → Int32 → Int32 → gMem
  | 0, M, _, _, _, _ => M
  | n + 1, M, x0, x1, x2, x3 => if x3 ≤ x2 then (M) else (F_Ar_fill_5 cs n (aPi (cs 0) M (x0.getD 0) x2.toNatClampNeg x1) x0 x1 (x2 + 1) x3)
def S_Ar_fill_5 (cs : Nat → ClassId) (lim : Nat × Nat) : Nat → gMem → Option Nat → Int32 → Int32 → Int32 → Prop
  | 0, _, _, _, _, _ => False
  | n + 1, M, x0, x1, x2, x3 => if x3 ≤ x2 then (True) else ((x0 = some (x0.getD 0) ∧ aIk (cs 0) M (x0.getD 0)) ∧ ((vp_in x2 (aL M (x0.getD 0))) ∧ (S_Ar_fill_5 cs lim n (aPi (cs 0) M (x0.getD 0) x2.toNatClampNeg x1) x0 x1 (x2 + 1) x3)))
set_option maxRecDepth 100000 in
set_option maxHeartbeats 4000000 in
theorem w_Ar_fill_5 {p : Program} {l : Launch} {e : Env} {s : State} {m : MethodId} {args : Array Value} {below : List Frame} {meth : Method} {c : Code} {D : va_G} {cs : Nat → ClassId} {B : Nat} {dE : Nat × Nat} {lim : Nat × Nat} {M0 : gMem} (C : CallFix p m c c_Ar_fill 4 s args gT y_Ar_fill.cls) (hE : gEnv D gcl (gtys cs) gz B dE s) (hf : l.flags = pinnedFlags ++ [noTraceFlag]) (hr : meth.sig.returnType = none) (hlocks : meth.locks = false) (hex : c.exceptionTable.isEmpty = true) (hn : meth.name = y_Ar_fill.name) : ∀ (n : Nat) (M : gMem) (x0 : Option Nat) (x1 : Int32) (x2 : Int32) (x3 : Int32) (Fv : gMem) (hle : cLe lim M0 M) (hS : S_Ar_fill_5 cs lim n M x0 x1 x2 x3) (hF : F_Ar_fill_5 cs n M x0 x1 x2 x3 = Fv), GW p l e ({ frames := 0, cells := lim.1 - M0.2.1, slots := lim.2 - M0.2.2, locals := 0 } : Room) s m args below meth c 4 (gA B) (cQ0 below D B (gA B) lim M0 (fun x M' => x = .inl none ∧ M' = Fv) args s) (gR D gcl B M) (M.2.1 - M0.2.1) (M.2.2 - M0.2.2) 5 [(0, va_rf x0), (1, .int x1), (2, .int x2), (3, .int x3)] [] := by
  intro n
  induction n with
  | zero =>
    intro M x0 x1 x2 x3 Fv hle hS hF
    exact hS.elim
  | succ n ih =>
    intro M x0 x1 x2 x3 Fv hle hS hF
    simp only [S_Ar_fill_5] at hS
    simp only [F_Ar_fill_5] at hF
    refine g_iload_n C d_Ar_fill_5 rfl ?_
    refine g_iload_n C d_Ar_fill_6 rfl ?_
    refine g_icmp_ge C 20 d_Ar_fill_7 (by decide) (fun hc1 => ?_) (fun hc1 => ?_)
    · rw [if_pos hc1] at hF hS
      exact c_vret (M := M) C hr hlocks hle d_Ar_fill_20 (by rw [← hF]; exact ⟨rfl, rfl⟩)
    · rw [if_neg hc1] at hF hS
      refine q_aload_n (r := x0) C d_Ar_fill_10 rfl ?_
      refine g_iload_n C d_Ar_fill_11 rfl ?_
      refine g_iload_n C d_Ar_fill_12 rfl ?_
      obtain ⟨ha2, hS⟩ := hS
      refine GW.known3 (a := x0.getD 0) ha2.1 ?_
      obtain ⟨hi3, hS⟩ := hS
      refine k_iast (M0 := M0) (M := M) C hE.1 d_Ar_fill_13 ha2.2 hi3 ?_
      replace hle := cLe.aPi (cA := cs 0) (a := x0.getD 0) (i := x2.toNatClampNeg) (x := x1) hle
      refine g_iinc (v := x2 + 1) (lv' := [(2, .int (x2 + 1)), (0, va_rf x0), (1, .int x1), (3, .int x3)]) C d_Ar_fill_14 rfl rfl (by decide) rfl ?_
      refine g_goto C 5 d_Ar_fill_17 (by decide) ?_
      refine GW.subl [1, 2, 0, 3] rfl ?_
      exact ih (aPi (cs 0) M (x0.getD 0) x2.toNatClampNeg x1) x0 x1 (x2 + 1) x3 Fv hle hS hF
def F_Ar_fill (cs : Nat → ClassId) (n : Nat) (M : gMem) (x0 : Option Nat) (x1 : Int32) : gMem := F_Ar_fill_5 cs n M x0 x1 0 (nI (aL M (x0.getD 0)))
def S_Ar_fill (cs : Nat → ClassId) (lim : Nat × Nat) (n : Nat) (M : gMem) (x0 : Option Nat) (x1 : Int32) : Prop := (x0 = some (x0.getD 0) ∧ ∃ x, M.1 (x0.getD 0) = some (1, .inl (cs 0, x))) ∧ (S_Ar_fill_5 cs lim n M x0 x1 0 (nI (aL M (x0.getD 0))))
set_option maxRecDepth 100000 in
set_option maxHeartbeats 4000000 in
theorem cc_Ar_fill (l : Launch) (hf : l.flags = pinnedFlags ++ [noTraceFlag]) (D : va_G) (cs : Nat → ClassId) (B : Nat) (dE : Nat × Nat) (lim : Nat × Nat) (n : Nat) (M : gMem) (x0 : Option Nat) (x1 : Int32) (hS : S_Ar_fill cs lim n M x0 x1) : cMet l y_Ar_fill (Cond.code y_Ar_fill c_Ar_fill 4 none) (0) (0) D cs B dE (gA B) lim [va_rf x0, .int x1] M (fun x M' => x = .inl none ∧ M' = (F_Ar_fill cs n M x0 x1)) := by
  refine cMet.ofW (by decide) (by cases x0 <;> exact Nat.le_of_ble_eq_true rfl) (lv0 := [(0, va_rf x0), (1, .int x1)]) (by cases x0 <;> rfl) ?_
  intro p e s m args below meth c C hE hR0 hle hr hlocks hex hn
  generalize hF : F_Ar_fill cs n M x0 x1 = Fv
  unfold F_Ar_fill at hF
  unfold S_Ar_fill at hS
  refine g_iconst (v := 0) C d_Ar_fill_0 (by decide) ?_
  refine g_istore_n (lv' := [(2, .int 0), (0, va_rf x0), (1, .int x1)]) C d_Ar_fill_1 (by decide) rfl ?_
  refine q_aload_n (r := x0) C d_Ar_fill_2 rfl ?_
  obtain ⟨ha1, hS⟩ := hS
  refine GW.known1 (a := x0.getD 0) ha1.1 ?_
  refine c_alen C hE.1 0 rfl d_Ar_fill_3 ha1.2 ?_
  refine g_istore_n (lv' := [(3, .int (nI (aL M (x0.getD 0)))), (2, .int 0), (0, va_rf x0), (1, .int x1)]) C d_Ar_fill_4 (by decide) rfl ?_
  refine GW.more (A' := gA B) (fun _ h => h.elim) ?_
  refine GW.subl [2, 3, 1, 0] rfl ?_
  exact w_Ar_fill_5 C hE hf hr hlocks hex hn n M x0 x1 0 (nI (aL M (x0.getD 0))) Fv hle hS hF
def F_Ck_seenAs (cs : Nat → ClassId) (M : gMem) (x0 : Int32) (x1 : Int32) : Int32 := (x0 * 256) + x1
def S_Ck_seenAs (cs : Nat → ClassId) (lim : Nat × Nat) (M : gMem) (x0 : Int32) (x1 : Int32) : Prop := True
set_option maxRecDepth 100000 in
set_option maxHeartbeats 4000000 in
theorem cc_Ck_seenAs (l : Launch) (hf : l.flags = pinnedFlags ++ [noTraceFlag]) (D : va_G) (cs : Nat → ClassId) (B : Nat) (dE : Nat × Nat) (lim : Nat × Nat) (M : gMem) (x0 : Int32) (x1 : Int32) (hS : S_Ck_seenAs cs lim M x0 x1) : cMet l y_Ck_seenAs (Cond.code y_Ck_seenAs c_Ck_seenAs 2 (some .int)) (0) (0) D cs B dE (fun _ => False) lim [.int x0, .int x1] M (fun x M' => x = .inl (some (.int (F_Ck_seenAs cs M x0 x1))) ∧ M' = M) := by
  refine cMet.ofW (by decide) (Nat.le_of_ble_eq_true rfl) (lv0 := [(0, .int x0), (1, .int x1)]) rfl ?_
  intro p e s m args below meth c C hE hR0 hle hr hlocks hex hn
  generalize hF : F_Ck_seenAs cs M x0 x1 = Fv
  unfold F_Ck_seenAs at hF
  unfold S_Ck_seenAs at hS
  refine g_iload_n C d_Ck_seenAs_0 rfl ?_
  refine g_sipush (v := 256) C d_Ck_seenAs_1 (by decide) ?_
  refine g_imul C d_Ck_seenAs_4 ?_
  refine g_iload_n C d_Ck_seenAs_5 rfl ?_
  refine g_iadd C d_Ck_seenAs_6 ?_
  exact c_iret (M := M) C hr hlocks hle d_Ck_seenAs_7 (by rw [← hF]; exact ⟨rfl, rfl⟩)
def F_Ck_blame (cs : Nat → ClassId) (M : gMem) (a0 : Nat) (x1 : Int32) (x2 : Int32) : Int32 × gMem := ((-1), cP 6 (cP 6 M a0 5 (.int x1)) a0 6 (.int x2))
def S_Ck_blame (cs : Nat → ClassId) (lim : Nat × Nat) (M : gMem) (a0 : Nat) (x1 : Int32) (x2 : Int32) : Prop := (cOk 6 M a0) ∧ ((cOk 6 (cP 6 M a0 5 (.int x1)) a0) ∧ (True))
set_option maxRecDepth 100000 in
set_option maxHeartbeats 4000000 in
theorem cc_Ck_blame (l : Launch) (hf : l.flags = pinnedFlags ++ [noTraceFlag]) (D : va_G) (cs : Nat → ClassId) (B : Nat) (dE : Nat × Nat) (lim : Nat × Nat) (M : gMem) (a0 : Nat) (x1 : Int32) (x2 : Int32) (hS : S_Ck_blame cs lim M a0 x1 x2) : cMet l y_Ck_blame (Cond.code y_Ck_blame c_Ck_blame 3 (some .int)) (0) (0) D cs B dE (gA B) lim [.ref a0, .int x1, .int x2] M (fun x M' => x = .inl (some (.int ((F_Ck_blame cs M a0 x1 x2).1))) ∧ M' = (F_Ck_blame cs M a0 x1 x2).2) := by
  refine cMet.ofW (by decide) (Nat.le_of_ble_eq_true rfl) (lv0 := [(0, .ref a0), (1, .int x1), (2, .int x2)]) rfl ?_
  intro p e s m args below meth c C hE hR0 hle hr hlocks hex hn
  generalize hF : F_Ck_blame cs M a0 x1 x2 = Fv
  unfold F_Ck_blame at hF
  unfold S_Ck_blame at hS
  refine g_aload_n C d_Ck_blame_0 rfl ?_
  refine g_iload_n C d_Ck_blame_1 rfl ?_
  refine GW.more (A' := gA B) (fun _ h => h.elim) ?_
  obtain ⟨ho1, hS⟩ := hS
  refine k_put (M0 := M) (M := M) C hE.1 (ci := 6) i_Ck rfl 5 (by decide) (by decide) kf_Ck_33 t_Ck t_Ck_ok n_Ck rfl (nf_i _) d_Ck_blame_2 ho1 ?_
  replace hle := cLe.cP (ci := 6) (a := a0) (k := 5) (v := .int x1) hle
  refine g_aload_n C d_Ck_blame_5 rfl ?_
  refine g_iload_n C d_Ck_blame_6 rfl ?_
  obtain ⟨ho2, hS⟩ := hS
  refine k_put (M0 := M) (M := cP 6 M a0 5 (.int x1)) C hE.1 (ci := 6) i_Ck rfl 6 (by decide) (by decide) kf_Ck_29 t_Ck t_Ck_ok n_Ck rfl (nf_i _) d_Ck_blame_7 ho2 ?_
  replace hle := cLe.cP (ci := 6) (a := a0) (k := 6) (v := .int x2) hle
  refine g_iconst (v := (-1)) C d_Ck_blame_10 (by decide) ?_
  exact c_iret (M := cP 6 (cP 6 M a0 5 (.int x1)) a0 6 (.int x2)) C hr hlocks hle d_Ck_blame_11 (by rw [← hF]; exact ⟨rfl, rfl⟩)
