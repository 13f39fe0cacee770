def F_Ar_copyOf2 (cs : Nat → ClassId) (dE : Nat × Nat) (M : gMem) (x0 : Option Nat) (x1 : Int32) : Option Nat × gMem := mbind (F_Ar_copyOf3 cs dE M x0 x1 (some dE.2)) (fun w3 => (w3.1, w3.2))
def S_Ar_copyOf2 (cs : Nat → ClassId) (lim : Nat × Nat) (dE : Nat × Nat) (M : gMem) (x0 : Option Nat) (x1 : Int32) : Prop := (x0 = some (x0.getD 0) ∧ aQk (cs 5) M (x0.getD 0)) ∧ ((S_Ar_copyOf3 cs lim dE M x0 x1 (some dE.2)) ∧ (mbind (F_Ar_copyOf3 cs dE M x0 x1 (some dE.2)) (fun w3 => True)))
set_option maxRecDepth 100000 in
set_option maxHeartbeats 4000000 in
theorem cc_Ar_copyOf2 (l : Launch) (hf : l.flags = pinnedFlags ++ [noTraceFlag]) (D : va_G) (cs : Nat → ClassId) (B : Nat) (dE : Nat × Nat) (lim : Nat × Nat) (M : gMem) (x0 : Option Nat) (x1 : Int32) (hS : S_Ar_copyOf2 cs lim dE M x0 x1) : cMet l y_Ar_copyOf2 (Cond.code y_Ar_copyOf2 c_Ar_copyOf2 2 (some (.array (.object "java/lang/Object")))) (2) (83) D cs B dE (gA B) lim [va_rf x0, .int x1] M (fun x M' => x = .inl (some (va_rf ((F_Ar_copyOf2 cs dE M x0 x1).1))) ∧ M' = (F_Ar_copyOf2 cs dE M x0 x1).2) := by
  refine cMet.ofW (by decide) (by cases x0 <;> exact Nat.le_of_ble_eq_true rfl) (lv0 := [(0, va_rf x0), (1, .int x1)]) (by cases x0 <;> rfl) ?_
  intro p e s m args below meth c C hE hR0 hle hr hlocks hex hn
  generalize hF : F_Ar_copyOf2 cs dE M x0 x1 = Fv
  unfold F_Ar_copyOf2 at hF
  unfold S_Ar_copyOf2 at hS
  refine q_aload_n (r := x0) C d_Ar_copyOf2_0 rfl ?_
  refine g_iload_n C d_Ar_copyOf2_1 rfl ?_
  refine q_aload_n (r := x0) C d_Ar_copyOf2_2 rfl ?_
  obtain ⟨ha1, hS⟩ := hS
  refine GW.known1 (a := x0.getD 0) ha1.1 ?_
  refine c_getC C hE km_Ar_86 kv_Ob_getClass_x972 kt_Ob_getClass_x991 d_Ar_copyOf2_3 ha1.2 (Nat.le_of_ble_eq_true rfl) (by simp only [List.map_cons, List.map_nil, rf_cat, List.sum_cons, List.sum_nil]; exact Nat.le_of_ble_eq_true rfl) ?_
  refine GW.more (A' := gA B) (fun _ h => h.elim) ?_
  obtain ⟨hs2, hS⟩ := hS
  refine c_call (av := [va_rf x0, .int x1, .ref dE.2]) (rest := []) C hE (fun _ h => h) ⟨rfl, rfl⟩ hle (cc_Ar_copyOf3 l hf D cs B dE lim _ x0 x1 (some dE.2) hs2) (fun _ h => h) kd_Ar_copyOf3 ki_Ar (Nat.le_of_ble_eq_true rfl) (Nat.le_of_ble_eq_true rfl) d_Ar_copyOf2_6 (Nat.le_of_ble_eq_true rfl) (c_fS (n := 3) C km_Ar_300 ks_Ar_copyOf3 ki_Ar kd_Ar_copyOf3 ⟨by decide, by decide, by decide⟩ rfl rfl d_Ar_copyOf2_6) (fun v1 M1 hv hle => ?_) (fun E1 M1 hv hle => ?_)
  · rw [mbind_eq] at hF hS
    obtain ⟨hx, hM1⟩ := hv
    have hM2 := hM1.symm
    subst hM2
    generalize hq_w3 : F_Ar_copyOf3 cs dE M x0 x1 (some dE.2) = w3 at hF hS hx hle ⊢
    cases hx
    refine GW.eqs (st' := [va_rf w3.1]) rfl ?_
    exact c_aret (M := w3.2) C hr (Or.inr ⟨_, rfl⟩) hlocks hle d_Ar_copyOf2_9 (by rw [← hF]; exact ⟨rfl, rfl⟩)
  · cases hv.1
def F_AL_grow2 (cs : Nat → ClassId) (dE : Nat × Nat) (M : gMem) (a0 : Nat) (x1 : Int32) : Option Nat × gMem := if 0 < (nI (aL M ((cQ M a0 0).getD 0))) then (mbind (F_ArraysSupport_newLength cs M (nI (aL M ((cQ M a0 0).getD 0))) (x1 - (nI (aL M ((cQ M a0 0).getD 0)))) ((nI (aL M ((cQ M a0 0).getD 0))) >>> (1 &&& 31))) (fun w5 => mbind (F_Ar_copyOf2 cs dE M (cQ M a0 0) w5) (fun w8 => (w8.1, cP 13 w8.2 a0 0 (va_rf w8.1))))) else (if cQ M a0 0 = some dE.1 then (mbind ((if 10 < x1 then x1 else 10 : Int32)) (fun w12 => (some M.2.1, cP 13 (gnw M (1, .inl (cs 5, w12.toNatClampNeg, .inr (.inr (.inr (.inr (fun _ => none)))))) w12.toNatClampNeg) a0 0 (va_rf (some M.2.1))))) else (mbind (F_ArraysSupport_newLength cs M (nI (aL M ((cQ M a0 0).getD 0))) (x1 - (nI (aL M ((cQ M a0 0).getD 0)))) ((nI (aL M ((cQ M a0 0).getD 0))) >>> (1 &&& 31))) (fun w17 => mbind (F_Ar_copyOf2 cs dE M (cQ M a0 0) w17) (fun w20 => (w20.1, cP 13 w20.2 a0 0 (va_rf w20.1))))))
def S_AL_grow2 (cs : Nat → ClassId) (lim : Nat × Nat) (dE : Nat × Nat) (M : gMem) (a0 : Nat) (x1 : Int32) : Prop := (cOk 13 M a0) ∧ ((cQ M a0 0 = some ((cQ M a0 0).getD 0) ∧ oOk cs dE M ((cQ M a0 0).getD 0)) ∧ (if 0 < (nI (aL M ((cQ M a0 0).getD 0))) then ((S_ArraysSupport_newLength cs lim M (nI (aL M ((cQ M a0 0).getD 0))) (x1 - (nI (aL M ((cQ M a0 0).getD 0)))) ((nI (aL M ((cQ M a0 0).getD 0))) >>> (1 &&& 31))) ∧ (mbind (F_ArraysSupport_newLength cs M (nI (aL M ((cQ M a0 0).getD 0))) (x1 - (nI (aL M ((cQ M a0 0).getD 0)))) ((nI (aL M ((cQ M a0 0).getD 0))) >>> (1 &&& 31))) (fun w5 => (cOk 13 M a0) ∧ ((S_Ar_copyOf2 cs lim dE M (cQ M a0 0) w5) ∧ (mbind (F_Ar_copyOf2 cs dE M (cQ M a0 0) w5) (fun w8 => (cOk 13 w8.2 a0) ∧ (True))))))) else ((cOk 13 M a0) ∧ (if cQ M a0 0 = some dE.1 then (mbind ((if 10 < x1 then x1 else 10 : Int32)) (fun w12 => ((¬ w12 < 0 ∧ w12.toNatClampNeg * 4 ≤ 536870912) ∧ M.2.1 + 1 ≤ lim.1 ∧ M.2.2 + w12.toNatClampNeg ≤ lim.2) ∧ ((cOk 13 (gnw M (1, .inl (cs 5, w12.toNatClampNeg, .inr (.inr (.inr (.inr (fun _ => none)))))) w12.toNatClampNeg) a0) ∧ (True)))) else ((S_ArraysSupport_newLength cs lim M (nI (aL M ((cQ M a0 0).getD 0))) (x1 - (nI (aL M ((cQ M a0 0).getD 0)))) ((nI (aL M ((cQ M a0 0).getD 0))) >>> (1 &&& 31))) ∧ (mbind (F_ArraysSupport_newLength cs M (nI (aL M ((cQ M a0 0).getD 0))) (x1 - (nI (aL M ((cQ M a0 0).getD 0)))) ((nI (aL M ((cQ M a0 0).getD 0))) >>> (1 &&& 31))) (fun w17 => (cOk 13 M a0) ∧ ((S_Ar_copyOf2 cs lim dE M (cQ M a0 0) w17) ∧ (mbind (F_Ar_copyOf2 cs dE M (cQ M a0 0) w17) (fun w20 => (cOk 13 w20.2 a0) ∧ (True)))))))))))
set_option maxRecDepth 100000 in
set_option maxHeartbeats 4000000 in
theorem cc_AL_grow2 (l : Launch) (hf : l.flags = pinnedFlags ++ [noTraceFlag]) (D : va_G) (cs : Nat → ClassId) (B : Nat) (dE : Nat × Nat) (lim : Nat × Nat) (M : gMem) (a0 : Nat) (x1 : Int32) (hS : S_AL_grow2 cs lim dE M a0 x1) : cMet l y_AL_grow2 (Cond.code y_AL_grow2 c_AL_grow2 4 (some (.array (.object "java/lang/Object")))) (3) (104) D cs B dE (gA B) lim [.ref a0, .int x1] M (fun x M' => x = .inl (some (va_rf ((F_AL_grow2 cs dE M a0 x1).1))) ∧ M' = (F_AL_grow2 cs dE M a0 x1).2) := by
  refine cMet.ofW (by decide) (Nat.le_of_ble_eq_true rfl) (lv0 := [(0, .ref a0), (1, .int x1)]) rfl ?_
  intro p e s m args below meth c C hE hR0 hle hr hlocks hex hn
  generalize hF : F_AL_grow2 cs dE M a0 x1 = Fv
  unfold F_AL_grow2 at hF
  unfold S_AL_grow2 at hS
  refine g_aload_n C d_AL_grow2_0 rfl ?_
  obtain ⟨ho1, hS⟩ := hS
  refine c_getq C hE.1 (ci := 13) i_AL rfl 0 (by decide) (by decide) (by decide) kf_AL_9 d_AL_grow2_1 ho1 ?_
  obtain ⟨ha2, hS⟩ := hS
  refine GW.known1 (a := (cQ M a0 0).getD 0) ha2.1 ?_
  refine c_alenO C hE (fun _ h => h.elim) d_AL_grow2_4 ha2.2 ?_
  refine g_istore_n (lv' := [(2, .int (nI (aL M ((cQ M a0 0).getD 0)))), (0, .ref a0), (1, .int x1)]) C d_AL_grow2_5 (by decide) rfl ?_
  refine g_iload_n C d_AL_grow2_6 rfl ?_
  refine g_if_gt C 20 d_AL_grow2_7 (by decide) (fun hc3 => ?_) (fun hc3 => ?_)
  · rw [if_pos hc3] at hF hS
    refine g_iload_n C d_AL_grow2_20 rfl ?_
    refine g_iload_n C d_AL_grow2_21 rfl ?_
    refine g_iload_n C d_AL_grow2_22 rfl ?_
    refine g_isub C d_AL_grow2_23 ?_
    refine g_iload_n C d_AL_grow2_24 rfl ?_
    refine g_iconst (v := 1) C d_AL_grow2_25 (by decide) ?_
    refine g_ishr C d_AL_grow2_26 ?_
    obtain ⟨hs4, hS⟩ := hS
    refine c_call (av := [.int (nI (aL M ((cQ M a0 0).getD 0))), .int (x1 - (nI (aL M ((cQ M a0 0).getD 0)))), .int ((nI (aL M ((cQ M a0 0).getD 0))) >>> (1 &&& 31))]) (rest := []) C hE (fun _ h => h.elim) ⟨rfl, rfl⟩ hle (cc_ArraysSupport_newLength l hf D cs B dE lim _ (nI (aL M ((cQ M a0 0).getD 0))) (x1 - (nI (aL M ((cQ M a0 0).getD 0)))) ((nI (aL M ((cQ M a0 0).getD 0))) >>> (1 &&& 31)) hs4) (fun _ h => h.elim) kd_ArraysSupport_newLength ki_ArraysSupport (Nat.le_of_ble_eq_true rfl) (Nat.le_of_ble_eq_true rfl) d_AL_grow2_27 (Nat.le_of_ble_eq_true rfl) (c_fS (n := 3) C km_AL_73 ks_ArraysSupport_newLength ki_ArraysSupport kd_ArraysSupport_newLength ⟨by decide, by decide, by decide⟩ rfl rfl d_AL_grow2_27) (fun v1 M1 hv hle => ?_) (fun E1 M1 hv hle => ?_)
    · rw [mbind_eq] at hF hS
      obtain ⟨hx, hM1⟩ := hv
      have hM2 := hM1.symm
      subst hM2
      generalize hq_w5 : F_ArraysSupport_newLength cs M (nI (aL M ((cQ M a0 0).getD 0))) (x1 - (nI (aL M ((cQ M a0 0).getD 0)))) ((nI (aL M ((cQ M a0 0).getD 0))) >>> (1 &&& 31)) = w5 at hF hS hx hle ⊢
      cases hx
      refine GW.eqs (st' := [.int w5]) rfl ?_
      refine g_istore_n (lv' := [(3, .int w5), (2, .int (nI (aL M ((cQ M a0 0).getD 0)))), (0, .ref a0), (1, .int x1)]) C d_AL_grow2_30 (by decide) rfl ?_
      refine g_aload_n C d_AL_grow2_31 rfl ?_
      refine g_aload_n C d_AL_grow2_32 rfl ?_
      obtain ⟨ho6, hS⟩ := hS
      refine c_getq C hE.1 (ci := 13) i_AL rfl 0 (by decide) (by decide) (by decide) kf_AL_9 d_AL_grow2_33 ho6 ?_
      refine g_iload_n C d_AL_grow2_36 rfl ?_
      refine GW.more (A' := gA B) (fun _ h => h.elim) ?_
      obtain ⟨hs7, hS⟩ := hS
      refine c_call (av := [va_rf (cQ M a0 0), .int w5]) (rest := [.ref a0]) C hE (fun _ h => h) ⟨rfl, rfl⟩ hle (cc_Ar_copyOf2 l hf D cs B dE lim _ (cQ M a0 0) w5 hs7) (fun _ h => h) kd_Ar_copyOf2 ki_Ar (Nat.le_of_ble_eq_true rfl) (Nat.le_of_ble_eq_true rfl) d_AL_grow2_37 (Nat.le_of_ble_eq_true rfl) (c_fS (n := 2) C km_AL_66 ks_Ar_copyOf2 ki_Ar kd_Ar_copyOf2 ⟨by decide, by decide, by decide⟩ rfl rfl d_AL_grow2_37) (fun v1 M1 hv hle => ?_) (fun E1 M1 hv hle => ?_)
      · rw [mbind_eq] at hF hS
        obtain ⟨hx, hM1⟩ := hv
        have hM2 := hM1.symm
        subst hM2
        generalize hq_w8 : F_Ar_copyOf2 cs dE M (cQ M a0 0) w5 = w8 at hF hS hx hle ⊢
        cases hx
        refine GW.eqs (st' := [va_rf w8.1, .ref a0]) rfl ?_
        refine g_dup_x1 C d_AL_grow2_40 (rf_cat _) rfl ?_
        obtain ⟨ho9, hS⟩ := hS
        refine k_put (M0 := M) (M := w8.2) C hE.1 (ci := 13) i_AL rfl 0 (by decide) (by decide) kf_AL_9 t_AL t_AL_ok n_AL rfl (nf_q _ (Or.inr ⟨_, rfl⟩) _) d_AL_grow2_41 ho9 ?_
        replace hle := cLe.cP (ci := 13) (a := a0) (k := 0) (v := va_rf w8.1) hle
        exact c_aret (M := cP 13 w8.2 a0 0 (va_rf w8.1)) C hr (Or.inr ⟨_, rfl⟩) hlocks hle d_AL_grow2_44 (by rw [← hF]; exact ⟨rfl, rfl⟩)
      · cases hv.1
    · cases hv.1
  · rw [if_neg hc3] at hF hS
    refine g_aload_n C d_AL_grow2_10 rfl ?_
    obtain ⟨ho10, hS⟩ := hS
    refine c_getq C hE.1 (ci := 13) i_AL rfl 0 (by decide) (by decide) (by decide) kf_AL_9 d_AL_grow2_11 ho10 ?_
    refine c_gets C hE (fun _ h => h.elim) kf_AL_39 d_AL_grow2_14 ?_
    refine GW.eqs (st' := [va_rf (some dE.1), va_rf (cQ M a0 0)]) rfl ?_
    refine g_acmp_eq C 45 d_AL_grow2_17 (by decide) (fun hc11 => ?_) (fun hc11 => ?_)
    · rw [if_pos hc11] at hF hS
      refine g_aload_n C d_AL_grow2_45 rfl ?_
      refine g_bipush (v := 10) C d_AL_grow2_46 (by decide) ?_
      refine g_iload_n C d_AL_grow2_48 rfl ?_
      refine c_mmax (M0 := M) (M := M) C ⟨rfl, rfl⟩ hle km_AL_79 ks_Mt_max ki_Mt kx_mmax d_AL_grow2_49 (Nat.le_of_ble_eq_true rfl) (Nat.le_of_ble_eq_true rfl) ?_
      rw [mbind_eq] at hF hS
      generalize (if 10 < x1 then x1 else 10 : Int32) = w12 at hF hS ⊢
      refine GW.more (A' := gA B) (fun _ h => h.elim) ?_
      obtain ⟨hl13, hS⟩ := hS
      refine c_newq (M0 := M) (M := M) C hE.1 ⟨rfl, rfl⟩ hle 5 rfl kc_AL_7 (gE_ao hE ko_Ob) hl13.1.1 hl13.1.2 d_AL_grow2_52 hl13.2 (fun hle => ?_)
      refine g_dup_x1 C d_AL_grow2_55 rfl rfl ?_
      obtain ⟨ho15, hS⟩ := hS
      refine GW.eqs (st' := [va_rf (some M.2.1), .ref a0, .ref M.2.1]) rfl ?_
      refine k_put (M0 := M) (M := gnw M (1, .inl (cs 5, w12.toNatClampNeg, .inr (.inr (.inr (.inr (fun _ => none)))))) w12.toNatClampNeg) C hE.1 (ci := 13) i_AL rfl 0 (by decide) (by decide) kf_AL_9 t_AL t_AL_ok n_AL rfl (nf_q _ (Or.inr ⟨_, rfl⟩) _) d_AL_grow2_56 ho15 ?_
      replace hle := cLe.cP (ci := 13) (a := a0) (k := 0) (v := va_rf (some M.2.1)) hle
      refine GW.eqs (st' := [va_rf (some M.2.1)]) rfl ?_
      exact c_aret (M := cP 13 (gnw M (1, .inl (cs 5, w12.toNatClampNeg, .inr (.inr (.inr (.inr (fun _ => none)))))) w12.toNatClampNeg) a0 0 (va_rf (some M.2.1))) C hr (Or.inr ⟨_, rfl⟩) hlocks hle d_AL_grow2_59 (by rw [← hF]; exact ⟨rfl, rfl⟩)
    · rw [if_neg hc11] at hF hS
      refine g_iload_n C d_AL_grow2_20 rfl ?_
      refine g_iload_n C d_AL_grow2_21 rfl ?_
      refine g_iload_n C d_AL_grow2_22 rfl ?_
      refine g_isub C d_AL_grow2_23 ?_
      refine g_iload_n C d_AL_grow2_24 rfl ?_
      refine g_iconst (v := 1) C d_AL_grow2_25 (by decide) ?_
      refine g_ishr C d_AL_grow2_26 ?_
      obtain ⟨hs16, hS⟩ := hS
      refine c_call (av := [.int (nI (aL M ((cQ M a0 0).getD 0))), .int (x1 - (nI (aL M ((cQ M a0 0).getD 0)))), .int ((nI (aL M ((cQ M a0 0).getD 0))) >>> (1 &&& 31))]) (rest := []) C hE (fun _ h => h.elim) ⟨rfl, rfl⟩ hle (cc_ArraysSupport_newLength l hf D cs B dE lim _ (nI (aL M ((cQ M a0 0).getD 0))) (x1 - (nI (aL M ((cQ M a0 0).getD 0)))) ((nI (aL M ((cQ M a0 0).getD 0))) >>> (1 &&& 31)) hs16) (fun _ h => h.elim) kd_ArraysSupport_newLength ki_ArraysSupport (Nat.le_of_ble_eq_true rfl) (Nat.le_of_ble_eq_true rfl) d_AL_grow2_27 (Nat.le_of_ble_eq_true rfl) (c_fS (n := 3) C km_AL_73 ks_ArraysSupport_newLength ki_ArraysSupport kd_ArraysSupport_newLength ⟨by decide, by decide, by decide⟩ rfl rfl d_AL_grow2_27) (fun v1 M1 hv hle => ?_) (fun E1 M1 hv hle => ?_)
      · rw [mbind_eq] at hF hS
        obtain ⟨hx, hM1⟩ := hv
        have hM2 := hM1.symm
        subst hM2
        generalize hq_w17 : F_ArraysSupport_newLength cs M (nI (aL M ((cQ M a0 0).getD 0))) (x1 - (nI (aL M ((cQ M a0 0).getD 0)))) ((nI (aL M ((cQ M a0 0).getD 0))) >>> (1 &&& 31)) = w17 at hF hS hx hle ⊢
        cases hx
        refine GW.eqs (st' := [.int w17]) rfl ?_
        refine g_istore_n (lv' := [(3, .int w17), (2, .int (nI (aL M ((cQ M a0 0).getD 0)))), (0, .ref a0), (1, .int x1)]) C d_AL_grow2_30 (by decide) rfl ?_
        refine g_aload_n C d_AL_grow2_31 rfl ?_
        refine g_aload_n C d_AL_grow2_32 rfl ?_
        obtain ⟨ho18, hS⟩ := hS
        refine c_getq C hE.1 (ci := 13) i_AL rfl 0 (by decide) (by decide) (by decide) kf_AL_9 d_AL_grow2_33 ho18 ?_
        refine g_iload_n C d_AL_grow2_36 rfl ?_
        refine GW.more (A' := gA B) (fun _ h => h.elim) ?_
        obtain ⟨hs19, hS⟩ := hS
        refine c_call (av := [va_rf (cQ M a0 0), .int w17]) (rest := [.ref a0]) C hE (fun _ h => h) ⟨rfl, rfl⟩ hle (cc_Ar_copyOf2 l hf D cs B dE lim _ (cQ M a0 0) w17 hs19) (fun _ h => h) kd_Ar_copyOf2 ki_Ar (Nat.le_of_ble_eq_true rfl) (Nat.le_of_ble_eq_true rfl) d_AL_grow2_37 (Nat.le_of_ble_eq_true rfl) (c_fS (n := 2) C km_AL_66 ks_Ar_copyOf2 ki_Ar kd_Ar_copyOf2 ⟨by decide, by decide, by decide⟩ rfl rfl d_AL_grow2_37) (fun v1 M1 hv hle => ?_) (fun E1 M1 hv hle => ?_)
        · rw [mbind_eq] at hF hS
          obtain ⟨hx, hM1⟩ := hv
          have hM2 := hM1.symm
          subst hM2
          generalize hq_w20 : F_Ar_copyOf2 cs dE M (cQ M a0 0) w17 = w20 at hF hS hx hle ⊢
          cases hx
          refine GW.eqs (st' := [va_rf w20.1, .ref a0]) rfl ?_
          refine g_dup_x1 C d_AL_grow2_40 (rf_cat _) rfl ?_
          obtain ⟨ho21, hS⟩ := hS
          refine k_put (M0 := M) (M := w20.2) C hE.1 (ci := 13) i_AL rfl 0 (by decide) (by decide) kf_AL_9 t_AL t_AL_ok n_AL rfl (nf_q _ (Or.inr ⟨_, rfl⟩) _) d_AL_grow2_41 ho21 ?_
          replace hle := cLe.cP (ci := 13) (a := a0) (k := 0) (v := va_rf w20.1) hle
          exact c_aret (M := cP 13 w20.2 a0 0 (va_rf w20.1)) C hr (Or.inr ⟨_, rfl⟩) hlocks hle d_AL_grow2_44 (by rw [← hF]; exact ⟨rfl, rfl⟩)
        · cases hv.1
      · cases hv.1
def F_AL_grow (cs : Nat → ClassId) (dE : Nat × Nat) (M : gMem) (a0 : Nat) : Option Nat × gMem := mbind (F_AL_grow2 cs dE M a0 ((cI M a0 1) + 1)) (fun w4 => (w4.1, w4.2))
def S_AL_grow (cs : Nat → ClassId) (lim : Nat × Nat) (dE : Nat × Nat) (M : gMem) (a0 : Nat) : Prop := (cOk 13 M a0) ∧ ((cOk 13 M a0) ∧ ((S_AL_grow2 cs lim dE M a0 ((cI M a0 1) + 1)) ∧ (mbind (F_AL_grow2 cs dE M a0 ((cI M a0 1) + 1)) (fun w4 => True))))
set_option maxRecDepth 100000 in
set_option maxHeartbeats 4000000 in
theorem cc_AL_grow (l : Launch) (hf : l.flags = pinnedFlags ++ [noTraceFlag]) (D : va_G) (cs : Nat → ClassId) (B : Nat) (dE : Nat × Nat) (lim : Nat × Nat) (M : gMem) (a0 : Nat) (hS : S_AL_grow cs lim dE M a0) : cMet l y_AL_grow (Cond.code y_AL_grow c_AL_grow 1 (some (.array (.object "java/lang/Object")))) (4) (127) D cs B dE (gA B) lim [.ref a0] M (fun x M' => x = .inl (some (va_rf ((F_AL_grow cs dE M a0).1))) ∧ M' = (F_AL_grow cs dE M a0).2) := by
  refine cMet.ofW (by decide) (Nat.le_of_ble_eq_true rfl) (lv0 := [(0, .ref a0)]) rfl ?_
  intro p e s m args below meth c C hE hR0 hle hr hlocks hex hn
  generalize hF : F_AL_grow cs dE M a0 = Fv
  unfold F_AL_grow at hF
  unfold S_AL_grow at hS
  refine g_aload_n C d_AL_grow_0 rfl ?_
  refine g_aload_n C d_AL_grow_1 rfl ?_
  obtain ⟨ho1, hS⟩ := hS
  refine c_geti C hE.1 (ci := 13) i_AL rfl 1 (by decide) (by decide) (by decide) kf_AL_48 d_AL_grow_2 ho1 ?_
  refine g_iconst (v := 1) C d_AL_grow_5 (by decide) ?_
  refine g_iadd C d_AL_grow_6 ?_
  refine GW.more (A' := gA B) (fun _ h => h.elim) ?_
  obtain ⟨ho2, hS⟩ := hS
  obtain ⟨hs3, hS⟩ := hS
  refine c_call (av := [.ref a0, .int ((cI M a0 1) + 1)]) (rest := []) C hE (fun _ h => h) ⟨rfl, rfl⟩ hle (cc_AL_grow2 l hf D cs B dE lim _ a0 ((cI M a0 1) + 1) hs3) (fun _ h => h) kd_AL_grow2 ki_AL (Nat.le_of_ble_eq_true rfl) (Nat.le_of_ble_eq_true rfl) d_AL_grow_7 (Nat.le_of_ble_eq_true rfl) (c_fV (n := 1) (ci := 13) C hE.1 rfl km_AL_69 kv_AL_grow2 kl_AL_grow2 kd_AL_grow2 ⟨by decide, by decide, by decide⟩ rfl rfl d_AL_grow_7 ho2) (fun v1 M1 hv hle => ?_) (fun E1 M1 hv hle => ?_)
  · rw [mbind_eq] at hF hS
    obtain ⟨hx, hM1⟩ := hv
    have hM2 := hM1.symm
    subst hM2
    generalize hq_w4 : F_AL_grow2 cs dE M a0 ((cI M a0 1) + 1) = w4 at hF hS hx hle ⊢
    cases hx
    refine GW.eqs (st' := [va_rf w4.1]) rfl ?_
    exact c_aret (M := w4.2) C hr (Or.inr ⟨_, rfl⟩) hlocks hle d_AL_grow_10 (by rw [← hF]; exact ⟨rfl, rfl⟩)
  · cases hv.1
def F_AL_add2 (cs : Nat → ClassId) (dE : Nat × Nat) (M : gMem) (a0 : Nat) (x1 : Option Nat) (x2 : Option Nat) (x3 : Int32) : gMem := if x3 = (nI (aL M (x2.getD 0))) then (mbind (F_AL_grow cs dE M a0 ) (fun w9 => cP 13 (aPq (cs 5) w9.2 (w9.1.getD 0) x3.toNatClampNeg x1) a0 1 (.int (x3 + 1)))) else (cP 13 (aPq (cs 5) M (x2.getD 0) x3.toNatClampNeg x1) a0 1 (.int (x3 + 1)))
def S_AL_add2 (cs : Nat → ClassId) (lim : Nat × Nat) (dE : Nat × Nat) (M : gMem) (a0 : Nat) (x1 : Option Nat) (x2 : Option Nat) (x3 : Int32) : Prop := (x2 = some (x2.getD 0) ∧ oOk cs dE M (x2.getD 0)) ∧ (if x3 = (nI (aL M (x2.getD 0))) then ((cOk 13 M a0) ∧ ((S_AL_grow cs lim dE M a0 ) ∧ (mbind (F_AL_grow cs dE M a0 ) (fun w9 => (w9.1 = some (w9.1.getD 0) ∧ aQk (cs 5) w9.2 (w9.1.getD 0)) ∧ ((vp_in x3 (aL w9.2 (w9.1.getD 0))) ∧ ((cOq 10 w9.2 x1 ∨ cOq 11 w9.2 x1) ∧ ((cOk 13 (aPq (cs 5) w9.2 (w9.1.getD 0) x3.toNatClampNeg x1) a0) ∧ (True)))))))) else ((x2 = some (x2.getD 0) ∧ aQk (cs 5) M (x2.getD 0)) ∧ ((vp_in x3 (aL M (x2.getD 0))) ∧ ((cOq 10 M x1 ∨ cOq 11 M x1) ∧ ((cOk 13 (aPq (cs 5) M (x2.getD 0) x3.toNatClampNeg x1) a0) ∧ (True))))))
set_option maxRecDepth 100000 in
set_option maxHeartbeats 4000000 in
theorem cc_AL_add2 (l : Launch) (hf : l.flags = pinnedFlags ++ [noTraceFlag]) (D : va_G) (cs : Nat → ClassId) (B : Nat) (dE : Nat × Nat) (lim : Nat × Nat) (M : gMem) (a0 : Nat) (x1 : Option Nat) (x2 : Option Nat) (x3 : Int32) (hS : S_AL_add2 cs lim dE M a0 x1 x2 x3) : cMet l y_AL_add2 (Cond.code y_AL_add2 c_AL_add2 4 none) (5) (147) D cs B dE (gA B) lim [.ref a0, va_rf x1, va_rf x2, .int x3] M (fun x M' => x = .inl none ∧ M' = (F_AL_add2 cs dE M a0 x1 x2 x3)) := by
  refine cMet.ofW (by decide) (by cases x1 <;> cases x2 <;> exact Nat.le_of_ble_eq_true rfl) (lv0 := [(0, .ref a0), (1, va_rf x1), (2, va_rf x2), (3, .int x3)]) (by cases x1 <;> cases x2 <;> rfl) ?_
  intro p e s m args below meth c C hE hR0 hle hr hlocks hex hn
  generalize hF : F_AL_add2 cs dE M a0 x1 x2 x3 = Fv
  unfold F_AL_add2 at hF
  unfold S_AL_add2 at hS
  refine g_iload_n C d_AL_add2_0 rfl ?_
  refine q_aload_n (r := x2) C d_AL_add2_1 rfl ?_
  obtain ⟨ha1, hS⟩ := hS
  refine GW.known1 (a := x2.getD 0) ha1.1 ?_
  refine c_alenO C hE (fun _ h => h.elim) d_AL_add2_2 ha1.2 ?_
  refine g_icmp_ne C 11 d_AL_add2_3 (by decide) (fun hc2 => ?_) (fun hc2 => ?_)
  · rw [if_neg hc2] at hF hS
    refine q_aload_n (r := x2) C d_AL_add2_11 rfl ?_
    refine g_iload_n C d_AL_add2_12 rfl ?_
    refine q_aload_n (r := x1) C d_AL_add2_13 rfl ?_
    refine GW.more (A' := gA B) (fun _ h => h.elim) ?_
    obtain ⟨ha3, hS⟩ := hS
    refine GW.known3 (a := x2.getD 0) ha3.1 ?_
    obtain ⟨hi4, hS⟩ := hS
    obtain ⟨hv5, hS⟩ := hS
    refine k_aastO2 (M0 := M) (M := M) C hE d_AL_add2_14 ha3.2 hv5 hi4 ?_
    replace hle := cLe.aPq (cA := cs 5) (a := x2.getD 0) (i := x3.toNatClampNeg) (r := x1) hle
    refine g_aload_n C d_AL_add2_15 rfl ?_
    refine g_iload_n C d_AL_add2_16 rfl ?_
    refine g_iconst (v := 1) C d_AL_add2_17 (by decide) ?_
    refine g_iadd C d_AL_add2_18 ?_
    obtain ⟨ho6, hS⟩ := hS
    refine k_put (M0 := M) (M := aPq (cs 5) M (x2.getD 0) x3.toNatClampNeg x1) C hE.1 (ci := 13) i_AL rfl 1 (by decide) (by decide) kf_AL_48 t_AL t_AL_ok n_AL rfl (nf_i _) d_AL_add2_19 ho6 ?_
    replace hle := cLe.cP (ci := 13) (a := a0) (k := 1) (v := .int (x3 + 1)) hle
    exact c_vret (M := cP 13 (aPq (cs 5) M (x2.getD 0) x3.toNatClampNeg x1) a0 1 (.int (x3 + 1))) C hr hlocks hle d_AL_add2_22 (by rw [← hF]; exact ⟨rfl, rfl⟩)
  · rw [if_pos hc2] at hF hS
    refine g_aload_n C d_AL_add2_6 rfl ?_
    refine GW.more (A' := gA B) (fun _ h => h.elim) ?_
    obtain ⟨ho7, hS⟩ := hS
    obtain ⟨hs8, hS⟩ := hS
    refine c_call (av := [.ref a0]) (rest := []) C hE (fun _ h => h) ⟨rfl, rfl⟩ hle (cc_AL_grow l hf D cs B dE lim _ a0  hs8) (fun _ h => h) kd_AL_grow ki_AL (Nat.le_of_ble_eq_true rfl) (Nat.le_of_ble_eq_true rfl) d_AL_add2_7 (Nat.le_of_ble_eq_true rfl) (c_fV (n := 0) (ci := 13) C hE.1 rfl km_AL_129 kv_AL_grow kl_AL_grow kd_AL_grow ⟨by decide, by decide, by decide⟩ rfl rfl d_AL_add2_7 ho7) (fun v1 M1 hv hle => ?_) (fun E1 M1 hv hle => ?_)
    · rw [mbind_eq] at hF hS
      obtain ⟨hx, hM1⟩ := hv
      have hM2 := hM1.symm
      subst hM2
      generalize hq_w9 : F_AL_grow cs dE M a0  = w9 at hF hS hx hle ⊢
      cases hx
      refine GW.eqs (st' := [va_rf w9.1]) rfl ?_
      refine q_astore_n (r := w9.1) (lv' := [(2, va_rf w9.1), (0, .ref a0), (1, va_rf x1), (3, .int x3)]) C d_AL_add2_10 (by decide) (by first | rfl | (simp only [lvs, List.filter, rf_cat]; rfl) | simp [lvs, List.filter, rf_cat]) ?_
      refine q_aload_n (r := w9.1) C d_AL_add2_11 rfl ?_
      refine g_iload_n C d_AL_add2_12 rfl ?_
      refine q_aload_n (r := x1) C d_AL_add2_13 rfl ?_
      obtain ⟨ha10, hS⟩ := hS
      refine GW.known3 (a := w9.1.getD 0) ha10.1 ?_
      obtain ⟨hi11, hS⟩ := hS
      obtain ⟨hv12, hS⟩ := hS
      refine k_aastO2 (M0 := M) (M := w9.2) C hE d_AL_add2_14 ha10.2 hv12 hi11 ?_
      replace hle := cLe.aPq (cA := cs 5) (a := w9.1.getD 0) (i := x3.toNatClampNeg) (r := x1) hle
      refine g_aload_n C d_AL_add2_15 rfl ?_
      refine g_iload_n C d_AL_add2_16 rfl ?_
      refine g_iconst (v := 1) C d_AL_add2_17 (by decide) ?_
      refine g_iadd C d_AL_add2_18 ?_
      obtain ⟨ho13, hS⟩ := hS
      refine k_put (M0 := M) (M := aPq (cs 5) w9.2 (w9.1.getD 0) x3.toNatClampNeg x1) C hE.1 (ci := 13) i_AL rfl 1 (by decide) (by decide) kf_AL_48 t_AL t_AL_ok n_AL rfl (nf_i _) d_AL_add2_19 ho13 ?_
      replace hle := cLe.cP (ci := 13) (a := a0) (k := 1) (v := .int (x3 + 1)) hle
      exact c_vret (M := cP 13 (aPq (cs 5) w9.2 (w9.1.getD 0) x3.toNatClampNeg x1) a0 1 (.int (x3 + 1))) C hr hlocks hle d_AL_add2_22 (by rw [← hF]; exact ⟨rfl, rfl⟩)
    · cases hv.1
def F_AL_add (cs : Nat → ClassId) (dE : Nat × Nat) (M : gMem) (a0 : Nat) (x1 : Option Nat) : Int32 × gMem := mbind (F_AL_add2 cs dE (cP 13 M a0 2 (.int ((cI M a0 2) + 1))) a0 x1 (cQ (cP 13 M a0 2 (.int ((cI M a0 2) + 1))) a0 0) (cI (cP 13 M a0 2 (.int ((cI M a0 2) + 1))) a0 1)) (fun w7 => (1, w7))
def S_AL_add (cs : Nat → ClassId) (lim : Nat × Nat) (dE : Nat × Nat) (M : gMem) (a0 : Nat) (x1 : Option Nat) : Prop := (cOk 13 M a0) ∧ ((cOk 13 M a0) ∧ ((cOk 13 (cP 13 M a0 2 (.int ((cI M a0 2) + 1))) a0) ∧ ((cOk 13 (cP 13 M a0 2 (.int ((cI M a0 2) + 1))) a0) ∧ ((cOk 13 (cP 13 M a0 2 (.int ((cI M a0 2) + 1))) a0) ∧ ((S_AL_add2 cs lim dE (cP 13 M a0 2 (.int ((cI M a0 2) + 1))) a0 x1 (cQ (cP 13 M a0 2 (.int ((cI M a0 2) + 1))) a0 0) (cI (cP 13 M a0 2 (.int ((cI M a0 2) + 1))) a0 1)) ∧ (mbind (F_AL_add2 cs dE (cP 13 M a0 2 (.int ((cI M a0 2) + 1))) a0 x1 (cQ (cP 13 M a0 2 (.int ((cI M a0 2) + 1))) a0 0) (cI (cP 13 M a0 2 (.int ((cI M a0 2) + 1))) a0 1)) (fun w7 => True)))))))
set_option maxRecDepth 100000 in
set_option maxHeartbeats 4000000 in
theorem cc_AL_add (l : Launch) (hf : l.flags = pinnedFlags ++ [noTraceFlag]) (D : va_G) (cs : Nat → ClassId) (B : Nat) (dE : Nat × Nat) (lim : Nat × Nat) (M : gMem) (a0 : Nat) (x1 : Option Nat) (hS : S_AL_add cs lim dE M a0 x1) : cMet l y_AL_add (Cond.code y_AL_add c_AL_add 2 (some .boolean)) (6) (170) D cs B dE (gA B) lim [.ref a0, va_rf x1] M (fun x M' => x = .inl (some (.int ((F_AL_add cs dE M a0 x1).1))) ∧ M' = (F_AL_add cs dE M a0 x1).2) := by
  refine cMet.ofW (by decide) (by cases x1 <;> exact Nat.le_of_ble_eq_true rfl) (lv0 := [(0, .ref a0), (1, va_rf x1)]) (by cases x1 <;> rfl) ?_
  intro p e s m args below meth c C hE hR0 hle hr hlocks hex hn
  generalize hF : F_AL_add cs dE M a0 x1 = Fv
  unfold F_AL_add at hF
  unfold S_AL_add at hS
  refine g_aload_n C d_AL_add_0 rfl ?_
  refine g_dup C d_AL_add_1 rfl ?_
  obtain ⟨ho1, hS⟩ := hS
  refine c_getS C hE kf_AL_63 d_AL_add_2 ho1 ?_
  refine g_iconst (v := 1) C d_AL_add_5 (by decide) ?_
  refine g_iadd C d_AL_add_6 ?_
  refine GW.more (A' := gA B) (fun _ h => h.elim) ?_
  obtain ⟨ho2, hS⟩ := hS
  refine k_putS (M0 := M) (M := M) C hE kf_AL_63 d_AL_add_7 ho2 ?_
  replace hle := cLe.cP (ci := 13) (a := a0) (k := 2) (v := .int ((cI M a0 2) + 1)) hle
  refine g_aload_n C d_AL_add_10 rfl ?_
  refine q_aload_n (r := x1) C d_AL_add_11 rfl ?_
  refine g_aload_n C d_AL_add_12 rfl ?_
  obtain ⟨ho3, hS⟩ := hS
  refine c_getq C hE.1 (ci := 13) i_AL rfl 0 (by decide) (by decide) (by decide) kf_AL_9 d_AL_add_13 ho3 ?_
  refine g_aload_n C d_AL_add_16 rfl ?_
  obtain ⟨ho4, hS⟩ := hS
  refine c_geti C hE.1 (ci := 13) i_AL rfl 1 (by decide) (by decide) (by decide) kf_AL_48 d_AL_add_17 ho4 ?_
  obtain ⟨ho5, hS⟩ := hS
  obtain ⟨hs6, hS⟩ := hS
  refine c_call (av := [.ref a0, va_rf x1, va_rf (cQ (cP 13 M a0 2 (.int ((cI M a0 2) + 1))) a0 0), .int (cI (cP 13 M a0 2 (.int ((cI M a0 2) + 1))) a0 1)]) (rest := []) C hE (fun _ h => h) ⟨rfl, rfl⟩ hle (cc_AL_add2 l hf D cs B dE lim _ a0 x1 (cQ (cP 13 M a0 2 (.int ((cI M a0 2) + 1))) a0 0) (cI (cP 13 M a0 2 (.int ((cI M a0 2) + 1))) a0 1) hs6) (fun _ h => h) kd_AL_add2 ki_AL (Nat.le_of_ble_eq_true rfl) (Nat.le_of_ble_eq_true rfl) d_AL_add_20 (Nat.le_of_ble_eq_true rfl) (c_fV (n := 3) (ci := 13) C hE.1 rfl km_AL_131 kv_AL_add2 kl_AL_add2 kd_AL_add2 ⟨by decide, by decide, by decide⟩ rfl rfl d_AL_add_20 ho5) (fun v1 M1 hv hle => ?_) (fun E1 M1 hv hle => ?_)
  · rw [mbind_eq] at hF hS
    obtain ⟨hx, hM1⟩ := hv
    have hM2 := hM1.symm
    subst hM2
    generalize hq_w7 : F_AL_add2 cs dE (cP 13 M a0 2 (.int ((cI M a0 2) + 1))) a0 x1 (cQ (cP 13 M a0 2 (.int ((cI M a0 2) + 1))) a0 0) (cI (cP 13 M a0 2 (.int ((cI M a0 2) + 1))) a0 1) = w7 at hF hS hx hle ⊢
    cases hx
    refine GW.eqs (st' := []) rfl ?_
    refine g_iconst (v := 1) C d_AL_add_23 (by decide) ?_
    exact c_zret (M := w7) C hr hlocks hle (by decide) d_AL_add_24 (by rw [← hF]; exact ⟨rfl, rfl⟩)
  · cases hv.1
def F_Preconditions_checkIndex (cs : Nat → ClassId) (M : gMem) (x0 : Int32) (x1 : Int32) (x2 : Option Nat) : Int32 := if x0 < 0 then (0) else (if x0 < x1 then (x0) else (0))
def S_Preconditions_checkIndex (cs : Nat → ClassId) (lim : Nat × Nat) (M : gMem) (x0 : Int32) (x1 : Int32) (x2 : Option Nat) : Prop := if x0 < 0 then (False) else (if x0 < x1 then (True) else (False))
set_option maxRecDepth 100000 in
set_option maxHeartbeats 4000000 in
theorem cc_Preconditions_checkIndex (l : Launch) (hf : l.flags = pinnedFlags ++ [noTraceFlag]) (D : va_G) (cs : Nat → ClassId) (B : Nat) (dE : Nat × Nat) (lim : Nat × Nat) (M : gMem) (x0 : Int32) (x1 : Int32) (x2 : Option Nat) (hS : S_Preconditions_checkIndex cs lim M x0 x1 x2) : cMet l y_Preconditions_checkIndex (Cond.code y_Preconditions_checkIndex c_Preconditions_checkIndex 3 (some .int)) (6) (100) D cs B dE (fun _ => False) lim [.int x0, .int x1, va_rf x2] M (fun x M' => x = .inl (some (.int (F_Preconditions_checkIndex cs M x0 x1 x2))) ∧ M' = M) := by
  refine cMet.ofW (by decide) (by cases x2 <;> exact Nat.le_of_ble_eq_true rfl) (lv0 := [(0, .int x0), (1, .int x1), (2, va_rf x2)]) (by cases x2 <;> rfl) ?_
  intro p e s m args below meth c C hE hR0 hle hr hlocks hex hn
  generalize hF : F_Preconditions_checkIndex cs M x0 x1 x2 = Fv
  unfold F_Preconditions_checkIndex at hF
  unfold S_Preconditions_checkIndex at hS
  refine g_iload_n C d_Preconditions_checkIndex_0 rfl ?_
  refine g_if_lt C 9 d_Preconditions_checkIndex_1 (by decide) (fun hc1 => ?_) (fun hc1 => ?_)
  · rw [if_pos hc1] at hF hS
    exact hS.elim
  · rw [if_neg hc1] at hF hS
    refine g_iload_n C d_Preconditions_checkIndex_4 rfl ?_
    refine g_iload_n C d_Preconditions_checkIndex_5 rfl ?_
    refine g_icmp_lt C 16 d_Preconditions_checkIndex_6 (by decide) (fun hc2 => ?_) (fun hc2 => ?_)
    · rw [if_pos hc2] at hF hS
      refine g_iload_n C d_Preconditions_checkIndex_16 rfl ?_
      exact c_iret (M := M) C hr hlocks hle d_Preconditions_checkIndex_17 (by rw [← hF]; exact ⟨rfl, rfl⟩)
    · rw [if_neg hc2] at hF hS
      exact hS.elim
def F_Os_checkIndex (cs : Nat → ClassId) (M : gMem) (x0 : Int32) (x1 : Int32) : Int32 := mbind (F_Preconditions_checkIndex cs M x0 x1 (none : Option Nat)) (fun w2 => w2)
def S_Os_checkIndex (cs : Nat → ClassId) (lim : Nat × Nat) (M : gMem) (x0 : Int32) (x1 : Int32) : Prop := (S_Preconditions_checkIndex cs lim M x0 x1 (none : Option Nat)) ∧ (mbind (F_Preconditions_checkIndex cs M x0 x1 (none : Option Nat)) (fun w2 => True))
set_option maxRecDepth 100000 in
set_option maxHeartbeats 4000000 in
theorem cc_Os_checkIndex (l : Launch) (hf : l.flags = pinnedFlags ++ [noTraceFlag]) (D : va_G) (cs : Nat → ClassId) (B : Nat) (dE : Nat × Nat) (lim : Nat × Nat) (M : gMem) (x0 : Int32) (x1 : Int32) (hS : S_Os_checkIndex cs lim M x0 x1) : cMet l y_Os_checkIndex (Cond.code y_Os_checkIndex c_Os_checkIndex 2 (some .int)) (7) (122) D cs B dE (fun _ => False) lim [.int x0, .int x1] M (fun x M' => x = .inl (some (.int (F_Os_checkIndex cs M x0 x1))) ∧ M' = M) := by
  refine cMet.ofW (by decide) (Nat.le_of_ble_eq_true rfl) (lv0 := [(0, .int x0), (1, .int x1)]) rfl ?_
  intro p e s m args below meth c C hE hR0 hle hr hlocks hex hn
  generalize hF : F_Os_checkIndex cs M x0 x1 = Fv
  unfold F_Os_checkIndex at hF
  unfold S_Os_checkIndex at hS
  refine g_iload_n C d_Os_checkIndex_0 rfl ?_
  refine g_iload_n C d_Os_checkIndex_1 rfl ?_
  refine g_null C d_Os_checkIndex_2 ?_
  refine GW.eqs (st' := [va_rf (none : Option Nat), .int x1, .int x0]) rfl ?_
  obtain ⟨hs1, hS⟩ := hS
  refine c_call (av := [.int x0, .int x1, va_rf (none : Option Nat)]) (rest := []) C hE (fun _ h => h.elim) ⟨rfl, rfl⟩ hle (cc_Preconditions_checkIndex l hf D cs B dE lim _ x0 x1 (none : Option Nat) hs1) (fun _ h => h.elim) kd_Preconditions_checkIndex ki_Preconditions (Nat.le_of_ble_eq_true rfl) (Nat.le_of_ble_eq_true rfl) d_Os_checkIndex_3 (Nat.le_of_ble_eq_true rfl) (c_fS (n := 3) C km_Os_105 ks_Preconditions_checkIndex ki_Preconditions kd_Preconditions_checkIndex ⟨by decide, by decide, by decide⟩ rfl rfl d_Os_checkIndex_3) (fun v1 M1 hv hle => ?_) (fun E1 M1 hv hle => ?_)
  · rw [mbind_eq] at hF hS
    obtain ⟨hx, hM1⟩ := hv
    have hM2 := hM1.symm
    subst hM2
    generalize hq_w2 : F_Preconditions_checkIndex cs M x0 x1 (none : Option Nat) = w2 at hF hS hx hle ⊢
    cases hx
    refine GW.eqs (st' := [.int w2]) rfl ?_
    exact c_iret (M := M) C hr hlocks hle d_Os_checkIndex_6 (by rw [← hF]; exact ⟨rfl, rfl⟩)
  · cases hv.1
def F_AL_elementData (cs : Nat → ClassId) (dE : Nat × Nat) (M : gMem) (a0 : Nat) (x1 : Int32) : Option Nat := aQ M ((cQ M a0 0).getD 0) x1.toNatClampNeg
def S_AL_elementData (cs : Nat → ClassId) (lim : Nat × Nat) (dE : Nat × Nat) (M : gMem) (a0 : Nat) (x1 : Int32) : Prop := (cOk 13 M a0) ∧ ((cQ M a0 0 = some ((cQ M a0 0).getD 0) ∧ aQk (cs 5) M ((cQ M a0 0).getD 0)) ∧ ((vp_in x1 (aL M ((cQ M a0 0).getD 0))) ∧ (True)))
set_option maxRecDepth 100000 in
set_option maxHeartbeats 4000000 in
theorem cc_AL_elementData (l : Launch) (hf : l.flags = pinnedFlags ++ [noTraceFlag]) (D : va_G) (cs : Nat → ClassId) (B : Nat) (dE : Nat × Nat) (lim : Nat × Nat) (M : gMem) (a0 : Nat) (x1 : Int32) (hS : S_AL_elementData cs lim dE M a0 x1) : cMet l y_AL_elementData (Cond.code y_AL_elementData c_AL_elementData 2 (some (.object "java/lang/Object"))) (0) (0) D cs B dE (fun _ => False) lim [.ref a0, .int x1] M (fun x M' => x = .inl (some (va_rf (F_AL_elementData cs dE M a0 x1))) ∧ M' = M) := by
  refine cMet.ofW (by decide) (Nat.le_of_ble_eq_true rfl) (lv0 := [(0, .ref a0), (1, .int x1)]) rfl ?_
  intro p e s m args below meth c C hE hR0 hle hr hlocks hex hn
  generalize hF : F_AL_elementData cs dE M a0 x1 = Fv
  unfold F_AL_elementData at hF
  unfold S_AL_elementData at hS
  refine g_aload_n C d_AL_elementData_0 rfl ?_
  obtain ⟨ho1, hS⟩ := hS
  refine c_getq C hE.1 (ci := 13) i_AL rfl 0 (by decide) (by decide) (by decide) kf_AL_9 d_AL_elementData_1 ho1 ?_
  refine g_iload_n C d_AL_elementData_4 rfl ?_
  obtain ⟨ha2, hS⟩ := hS
  refine GW.known2 (a := (cQ M a0 0).getD 0) ha2.1 ?_
  obtain ⟨hi3, hS⟩ := hS
  refine c_aald C hE.1 5 rfl d_AL_elementData_5 ha2.2 hi3 ?_
  exact c_aret (M := M) C hr (Or.inl ⟨_, rfl⟩) hlocks hle d_AL_elementData_6 (by rw [← hF]; exact ⟨rfl, rfl⟩)
def F_AL_get (cs : Nat → ClassId) (dE : Nat × Nat) (M : gMem) (a0 : Nat) (x1 : Int32) : Option Nat := mbind (F_Os_checkIndex cs M x1 (cI M a0 1)) (fun w3 => mbind (F_AL_elementData cs dE M a0 x1) (fun w6 => w6))
def S_AL_get (cs : Nat → ClassId) (lim : Nat × Nat) (dE : Nat × Nat) (M : gMem) (a0 : Nat) (x1 : Int32) : Prop := (cOk 13 M a0) ∧ ((S_Os_checkIndex cs lim M x1 (cI M a0 1)) ∧ (mbind (F_Os_checkIndex cs M x1 (cI M a0 1)) (fun w3 => (cOk 13 M a0) ∧ ((S_AL_elementData cs lim dE M a0 x1) ∧ (mbind (F_AL_elementData cs dE M a0 x1) (fun w6 => True))))))
set_option maxRecDepth 100000 in
set_option maxHeartbeats 4000000 in
theorem cc_AL_get (l : Launch) (hf : l.flags = pinnedFlags ++ [noTraceFlag]) (D : va_G) (cs : Nat → ClassId) (B : Nat) (dE : Nat × Nat) (lim : Nat × Nat) (M : gMem) (a0 : Nat) (x1 : Int32) (hS : S_AL_get cs lim dE M a0 x1) : cMet l y_AL_get (Cond.code y_AL_get c_AL_get 2 (some (.object "java/lang/Object"))) (8) (143) D cs B dE (fun _ => False) lim [.ref a0, .int x1] M (fun x M' => x = .inl (some (va_rf (F_AL_get cs dE M a0 x1))) ∧ M' = M) := by
  refine cMet.ofW (by decide) (Nat.le_of_ble_eq_true rfl) (lv0 := [(0, .ref a0), (1, .int x1)]) rfl ?_
  intro p e s m args below meth c C hE hR0 hle hr hlocks hex hn
  generalize hF : F_AL_get cs dE M a0 x1 = Fv
  unfold F_AL_get at hF
  unfold S_AL_get at hS
  refine g_iload_n C d_AL_get_0 rfl ?_
  refine g_aload_n C d_AL_get_1 rfl ?_
  obtain ⟨ho1, hS⟩ := hS
  refine c_geti C hE.1 (ci := 13) i_AL rfl 1 (by decide) (by decide) (by decide) kf_AL_48 d_AL_get_2 ho1 ?_
  obtain ⟨hs2, hS⟩ := hS
  refine c_call (av := [.int x1, .int (cI M a0 1)]) (rest := []) C hE (fun _ h => h.elim) ⟨rfl, rfl⟩ hle (cc_Os_checkIndex l hf D cs B dE lim _ x1 (cI M a0 1) hs2) (fun _ h => h.elim) kd_Os_checkIndex ki_Os (Nat.le_of_ble_eq_true rfl) (Nat.le_of_ble_eq_true rfl) d_AL_get_5 (Nat.le_of_ble_eq_true rfl) (c_fS (n := 2) C km_AL_118 ks_Os_checkIndex ki_Os kd_Os_checkIndex ⟨by decide, by decide, by decide⟩ rfl rfl d_AL_get_5) (fun v1 M1 hv hle => ?_) (fun E1 M1 hv hle => ?_)
  · rw [mbind_eq] at hF hS
    obtain ⟨hx, hM1⟩ := hv
    have hM2 := hM1.symm
    subst hM2
    generalize hq_w3 : F_Os_checkIndex cs M x1 (cI M a0 1) = w3 at hF hS hx hle ⊢
    cases hx
    refine GW.eqs (st' := [.int w3]) rfl ?_
    refine g_pop C d_AL_get_8 rfl ?_
    refine g_aload_n C d_AL_get_9 rfl ?_
    refine g_iload_n C d_AL_get_10 rfl ?_
    obtain ⟨ho4, hS⟩ := hS
    obtain ⟨hs5, hS⟩ := hS
    refine c_call (av := [.ref a0, .int x1]) (rest := []) C hE (fun _ h => h.elim) ⟨rfl, rfl⟩ hle (cc_AL_elementData l hf D cs B dE lim _ a0 x1 hs5) (fun _ h => h.elim) kd_AL_elementData ki_AL (Nat.le_of_ble_eq_true rfl) (Nat.le_of_ble_eq_true rfl) d_AL_get_11 (Nat.le_of_ble_eq_true rfl) (c_fV (n := 1) (ci := 13) C hE.1 rfl km_AL_123 kv_AL_elementData kl_AL_elementData kd_AL_elementData ⟨by decide, by decide, by decide⟩ rfl rfl d_AL_get_11 ho4) (fun v1 M1 hv hle => ?_) (fun E1 M1 hv hle => ?_)
    · rw [mbind_eq] at hF hS
      obtain ⟨hx, hM1⟩ := hv
      have hM2 := hM1.symm
      subst hM2
      generalize hq_w6 : F_AL_elementData cs dE M a0 x1 = w6 at hF hS hx hle ⊢
      cases hx
      refine GW.eqs (st' := [va_rf w6]) rfl ?_
      exact c_aret (M := M) C hr (Or.inl ⟨_, rfl⟩) hlocks hle d_AL_get_14 (by rw [← hF]; exact ⟨rfl, rfl⟩)
    · cases hv.1
  · cases hv.1
def F_St_init (cs : Nat → ClassId) (dE : Nat × Nat) (M : gMem) (a0 : Nat) : gMem := mbind (F_AL_init cs dE (gnw M (1, .inr (13, [.null, .int 0, .int 0])) 3) M.2.1 ) (fun w3 => mbind (F_AL_init cs dE (gnw (cP 9 w3 a0 0 (va_rf (some M.2.1))) (1, .inr (13, [.null, .int 0, .int 0])) 3) ((cP 9 w3 a0 0 (va_rf (some M.2.1))).2.1) ) (fun w7 => cP 9 w7 a0 1 (va_rf (some ((cP 9 w3 a0 0 (va_rf (some M.2.1))).2.1)))))
def S_St_init (cs : Nat → ClassId) (lim : Nat × Nat) (dE : Nat × Nat) (M : gMem) (a0 : Nat) : Prop := (M.2.1 + 1 ≤ lim.1 ∧ M.2.2 + 3 ≤ lim.2) ∧ ((S_AL_init cs lim dE (gnw M (1, .inr (13, [.null, .int 0, .int 0])) 3) M.2.1 ) ∧ (mbind (F_AL_init cs dE (gnw M (1, .inr (13, [.null, .int 0, .int 0])) 3) M.2.1 ) (fun w3 => (cOk 9 w3 a0) ∧ (((cP 9 w3 a0 0 (va_rf (some M.2.1))).2.1 + 1 ≤ lim.1 ∧ (cP 9 w3 a0 0 (va_rf (some M.2.1))).2.2 + 3 ≤ lim.2) ∧ ((S_AL_init cs lim dE (gnw (cP 9 w3 a0 0 (va_rf (some M.2.1))) (1, .inr (13, [.null, .int 0, .int 0])) 3) ((cP 9 w3 a0 0 (va_rf (some M.2.1))).2.1) ) ∧ (mbind (F_AL_init cs dE (gnw (cP 9 w3 a0 0 (va_rf (some M.2.1))) (1, .inr (13, [.null, .int 0, .int 0])) 3) ((cP 9 w3 a0 0 (va_rf (some M.2.1))).2.1) ) (fun w7 => (cOk 9 w7 a0) ∧ (True))))))))
set_option maxRecDepth 100000 in
set_option maxHeartbeats 4000000 in
theorem cc_St_init (l : Launch) (hf : l.flags = pinnedFlags ++ [noTraceFlag]) (D : va_G) (cs : Nat → ClassId) (B : Nat) (dE : Nat × Nat) (lim : Nat × Nat) (M : gMem) (a0 : Nat) (hS : S_St_init cs lim dE M a0) : cMet l y_St_init (Cond.code y_St_init c_St_init 1 none) (4) (80) D cs B dE (gA B) lim [.ref a0] M (fun x M' => x = .inl none ∧ M' = (F_St_init cs dE M a0)) := by
  refine cMet.ofW (by decide) (Nat.le_of_ble_eq_true rfl) (lv0 := [(0, .ref a0)]) rfl ?_
  intro p e s m args below meth c C hE hR0 hle hr hlocks hex hn
  generalize hF : F_St_init cs dE M a0 = Fv
  unfold F_St_init at hF
  unfold S_St_init at hS
  refine g_aload_n C d_St_init_0 rfl ?_
  refine g_objInit C km_St_1 kv_Ob_init kd_Ob_init d_St_init_1 (Nat.le_of_ble_eq_true rfl) (Nat.le_of_ble_eq_true rfl) ?_
  refine g_aload_n C d_St_init_4 rfl ?_
  refine GW.more (A' := gA B) (fun _ h => h.elim) ?_
  obtain ⟨hl1, hS⟩ := hS
  refine c_new (M0 := M) (M := M) (ci := 13) (N := 3) (fs := [.null, .int 0, .int 0]) C hE.1 ⟨rfl, rfl⟩ hle i_AL rfl t_AL t_AL_ok kc_St_7 kn_AL ki_AL (by decide) d_St_init_5 hl1 (fun hle => ?_)
  refine g_dup C d_St_init_8 rfl ?_
  obtain ⟨hs2, hS⟩ := hS
  refine c_call (av := [.ref M.2.1]) (rest := [.ref M.2.1, .ref a0]) C hE (fun _ h => h) ⟨rfl, rfl⟩ hle (cc_AL_init l hf D cs B dE lim _ M.2.1  hs2) (fun _ h => h) kd_AL_init ki_AL (Nat.le_of_ble_eq_true rfl) (Nat.le_of_ble_eq_true rfl) d_St_init_9 (Nat.le_of_ble_eq_true rfl) (c_fI (n := 0) C rfl km_St_9 kv_AL_init kd_AL_init ⟨by decide, by decide, by decide⟩ rfl rfl d_St_init_9) (fun v1 M1 hv hle => ?_) (fun E1 M1 hv hle => ?_)
  · rw [mbind_eq] at hF hS
    obtain ⟨hx, hM1⟩ := hv
    have hM2 := hM1.symm
    subst hM2
    generalize hq_w3 : F_AL_init cs dE (gnw M (1, .inr (13, [.null, .int 0, .int 0])) 3) M.2.1  = w3 at hF hS hx hle ⊢
    cases hx
    refine GW.eqs (st' := [.ref M.2.1, .ref a0]) rfl ?_
    obtain ⟨ho4, hS⟩ := hS
    refine GW.eqs (st' := [va_rf (some M.2.1), .ref a0]) rfl ?_
    refine k_putF (M0 := M) (M := w3) C hE.1 (ci := 9) i_St rfl 0 (by decide) (by decide) kf_St_10 t_St t_St_ok n_St rfl hn rfl (nf_q _ (Or.inl ⟨_, rfl⟩) _) d_St_init_12 ho4 ?_
    replace hle := cLe.cP (ci := 9) (a := a0) (k := 0) (v := va_rf (some M.2.1)) hle
    refine g_aload_n C d_St_init_15 rfl ?_
    obtain ⟨hl5, hS⟩ := hS
    refine c_new (M0 := M) (M := cP 9 w3 a0 0 (va_rf (some M.2.1))) (ci := 13) (N := 3) (fs := [.null, .int 0, .int 0]) C hE.1 ⟨rfl, rfl⟩ hle i_AL rfl t_AL t_AL_ok kc_St_7 kn_AL ki_AL (by decide) d_St_init_16 hl5 (fun hle => ?_)
    refine g_dup C d_St_init_19 rfl ?_
    obtain ⟨hs6, hS⟩ := hS
    refine c_call (av := [.ref ((cP 9 w3 a0 0 (va_rf (some M.2.1))).2.1)]) (rest := [.ref ((cP 9 w3 a0 0 (va_rf (some M.2.1))).2.1), .ref a0]) C hE (fun _ h => h) ⟨rfl, rfl⟩ hle (cc_AL_init l hf D cs B dE lim _ ((cP 9 w3 a0 0 (va_rf (some M.2.1))).2.1)  hs6) (fun _ h => h) kd_AL_init ki_AL (Nat.le_of_ble_eq_true rfl) (Nat.le_of_ble_eq_true rfl) d_St_init_20 (Nat.le_of_ble_eq_true rfl) (c_fI (n := 0) C rfl km_St_9 kv_AL_init kd_AL_init ⟨by decide, by decide, by decide⟩ rfl rfl d_St_init_20) (fun v1 M1 hv hle => ?_) (fun E1 M1 hv hle => ?_)
    · rw [mbind_eq] at hF hS
      obtain ⟨hx, hM1⟩ := hv
      have hM2 := hM1.symm
      subst hM2
      generalize hq_w7 : F_AL_init cs dE (gnw (cP 9 w3 a0 0 (va_rf (some M.2.1))) (1, .inr (13, [.null, .int 0, .int 0])) 3) ((cP 9 w3 a0 0 (va_rf (some M.2.1))).2.1)  = w7 at hF hS hx hle ⊢
      cases hx
      refine GW.eqs (st' := [.ref ((cP 9 w3 a0 0 (va_rf (some M.2.1))).2.1), .ref a0]) rfl ?_
      obtain ⟨ho8, hS⟩ := hS
      refine GW.eqs (st' := [va_rf (some ((cP 9 w3 a0 0 (va_rf (some M.2.1))).2.1)), .ref a0]) rfl ?_
      refine k_putF (M0 := M) (M := w7) C hE.1 (ci := 9) i_St rfl 1 (by decide) (by decide) kf_St_16 t_St t_St_ok n_St rfl hn rfl (nf_q _ (Or.inl ⟨_, rfl⟩) _) d_St_init_23 ho8 ?_
      replace hle := cLe.cP (ci := 9) (a := a0) (k := 1) (v := va_rf (some ((cP 9 w3 a0 0 (va_rf (some M.2.1))).2.1))) hle
      exact c_vret (M := cP 9 w7 a0 1 (va_rf (some ((cP 9 w3 a0 0 (va_rf (some M.2.1))).2.1)))) C hr hlocks hle d_St_init_26 (by rw [← hF]; exact ⟨rfl, rfl⟩)
    · cases hv.1
  · cases hv.1
def F_St_reset (cs : Nat → ClassId) (M : gMem) (a0 : Nat) : gMem := cP 9 (cP 9 (cP 9 M a0 2 (.int 0)) a0 3 (.int 0)) a0 4 (va_rf (none : Option Nat))
def S_St_reset (cs : Nat → ClassId) (lim : Nat × Nat) (M : gMem) (a0 : Nat) : Prop := (cOk 9 M a0) ∧ ((cOk 9 (cP 9 M a0 2 (.int 0)) a0) ∧ ((cOk 9 (cP 9 (cP 9 M a0 2 (.int 0)) a0 3 (.int 0)) a0) ∧ (True)))
set_option maxRecDepth 100000 in
set_option maxHeartbeats 4000000 in
theorem cc_St_reset (l : Launch) (hf : l.flags = pinnedFlags ++ [noTraceFlag]) (D : va_G) (cs : Nat → ClassId) (B : Nat) (dE : Nat × Nat) (lim : Nat × Nat) (M : gMem) (a0 : Nat) (hS : S_St_reset cs lim M a0) : cMet l y_St_reset (Cond.code y_St_reset c_St_reset 1 none) (0) (0) D cs B dE (gA B) lim [.ref a0] M (fun x M' => x = .inl none ∧ M' = (F_St_reset cs M a0)) := by
  refine cMet.ofW (by decide) (Nat.le_of_ble_eq_true rfl) (lv0 := [(0, .ref a0)]) rfl ?_
  intro p e s m args below meth c C hE hR0 hle hr hlocks hex hn
  generalize hF : F_St_reset cs M a0 = Fv
  unfold F_St_reset at hF
  unfold S_St_reset at hS
  refine g_aload_n C d_St_reset_0 rfl ?_
  refine g_iconst (v := 0) C d_St_reset_1 (by decide) ?_
  refine GW.more (A' := gA B) (fun _ h => h.elim) ?_
  obtain ⟨ho1, hS⟩ := hS
  refine k_put (M0 := M) (M := M) C hE.1 (ci := 9) i_St rfl 2 (by decide) (by decide) kf_St_19 t_St t_St_ok n_St rfl (nf_i _) d_St_reset_2 ho1 ?_
  replace hle := cLe.cP (ci := 9) (a := a0) (k := 2) (v := .int 0) hle
  refine g_aload_n C d_St_reset_5 rfl ?_
  refine g_iconst (v := 0) C d_St_reset_6 (by decide) ?_
  obtain ⟨ho2, hS⟩ := hS
  refine k_put (M0 := M) (M := cP 9 M a0 2 (.int 0)) C hE.1 (ci := 9) i_St rfl 3 (by decide) (by decide) kf_St_23 t_St t_St_ok n_St rfl (nf_i _) d_St_reset_7 ho2 ?_
  replace hle := cLe.cP (ci := 9) (a := a0) (k := 3) (v := .int 0) hle
  refine g_aload_n C d_St_reset_10 rfl ?_
  refine g_null C d_St_reset_11 ?_
  refine GW.eqs (st' := [va_rf (none : Option Nat), .ref a0]) rfl ?_
  obtain ⟨ho3, hS⟩ := hS
  refine k_put (M0 := M) (M := cP 9 (cP 9 M a0 2 (.int 0)) a0 3 (.int 0)) C hE.1 (ci := 9) i_St rfl 4 (by decide) (by decide) kf_St_26 t_St t_St_ok n_St rfl (nf_q _ (Or.inl ⟨_, rfl⟩) _) d_St_reset_12 ho3 ?_
  replace hle := cLe.cP (ci := 9) (a := a0) (k := 4) (v := va_rf (none : Option Nat)) hle
  exact c_vret (M := cP 9 (cP 9 (cP 9 M a0 2 (.int 0)) a0 3 (.int 0)) a0 4 (va_rf (none : Option Nat))) C hr hlocks hle d_St_reset_15 (by rw [← hF]; exact ⟨rfl, rfl⟩)
def F_St_takeFrame (cs : Nat → ClassId) (dE : Nat × Nat) (M : gMem) (a0 : Nat) : Option Nat × gMem := if (cQ M a0 4) = none then (mbind (F_AL_size cs dE M ((cQ M a0 0).getD 0) ) (fun w7 => if (cI M a0 2) < w7 then (mbind (F_AL_get cs dE M ((cQ M a0 0).getD 0) (cI M a0 2)) (fun w13 => (w13, cP 9 M a0 2 (.int ((cI M a0 2) + 1))))) else (mbind (F_Fr_init cs (gnw M (1, .inr (10, [.null, .int 0, .int 0, .null, .null])) 5) M.2.1 ) (fun w20 => mbind (F_AL_add cs dE w20 ((cQ M a0 0).getD 0) (some M.2.1)) (fun w23 => mbind (F_AL_get cs dE w23.2 ((cQ w23.2 a0 0).getD 0) (cI w23.2 a0 2)) (fun w28 => (w28, cP 9 w23.2 a0 2 (.int ((cI w23.2 a0 2) + 1))))))))) else ((cQ M a0 4, cP 9 M a0 4 (va_rf (cQ M ((cQ M a0 4).getD 0) 4))))
def S_St_takeFrame (cs : Nat → ClassId) (lim : Nat × Nat) (dE : Nat × Nat) (M : gMem) (a0 : Nat) : Prop := (cOk 9 M a0) ∧ (if (cQ M a0 4) = none then ((cOk 9 M a0) ∧ ((cOk 9 M a0) ∧ ((cOq 13 M (cQ M a0 0)) ∧ ((S_AL_size cs lim dE M ((cQ M a0 0).getD 0) ) ∧ (mbind (F_AL_size cs dE M ((cQ M a0 0).getD 0) ) (fun w7 => if (cI M a0 2) < w7 then ((cOk 9 M a0) ∧ ((cOk 9 M a0) ∧ ((cOq 13 M (cQ M a0 0)) ∧ ((S_AL_get cs lim dE M ((cQ M a0 0).getD 0) (cI M a0 2)) ∧ (mbind (F_AL_get cs dE M ((cQ M a0 0).getD 0) (cI M a0 2)) (fun w13 => (w13 = none ∨ cOq 10 M w13) ∧ ((cOk 9 M a0) ∧ ((cOk 9 M a0) ∧ (True))))))))) else ((cOk 9 M a0) ∧ ((M.2.1 + 1 ≤ lim.1 ∧ M.2.2 + 5 ≤ lim.2) ∧ ((S_Fr_init cs lim (gnw M (1, .inr (10, [.null, .int 0, .int 0, .null, .null])) 5) M.2.1 ) ∧ (mbind (F_Fr_init cs (gnw M (1, .inr (10, [.null, .int 0, .int 0, .null, .null])) 5) M.2.1 ) (fun w20 => (cOq 13 w20 (cQ M a0 0)) ∧ ((S_AL_add cs lim dE w20 ((cQ M a0 0).getD 0) (some M.2.1)) ∧ (mbind (F_AL_add cs dE w20 ((cQ M a0 0).getD 0) (some M.2.1)) (fun w23 => (cOk 9 w23.2 a0) ∧ ((cOk 9 w23.2 a0) ∧ ((cOq 13 w23.2 (cQ w23.2 a0 0)) ∧ ((S_AL_get cs lim dE w23.2 ((cQ w23.2 a0 0).getD 0) (cI w23.2 a0 2)) ∧ (mbind (F_AL_get cs dE w23.2 ((cQ w23.2 a0 0).getD 0) (cI w23.2 a0 2)) (fun w28 => (w28 = none ∨ cOq 10 w23.2 w28) ∧ ((cOk 9 w23.2 a0) ∧ ((cOk 9 w23.2 a0) ∧ (True)))))))))))))))))))))) else ((cOq 10 M (cQ M a0 4)) ∧ ((cOk 9 M a0) ∧ (True))))
set_option maxRecDepth 100000 in
set_option maxHeartbeats 4000000 in
theorem cc_St_takeFrame (l : Launch) (hf : l.flags = pinnedFlags ++ [noTraceFlag]) (D : va_G) (cs : Nat → ClassId) (B : Nat) (dE : Nat × Nat) (lim : Nat × Nat) (M : gMem) (a0 : Nat) (hS : S_St_takeFrame cs lim dE M a0) : cMet l y_St_takeFrame (Cond.code y_St_takeFrame c_St_takeFrame 2 (some (.object "EffectNodes$Frame"))) (9) (191) D cs B dE (gA B) lim [.ref a0] M (fun x M' => x = .inl (some (va_rf ((F_St_takeFrame cs dE M a0).1))) ∧ M' = (F_St_takeFrame cs dE M a0).2) := by
  refine cMet.ofW (by decide) (Nat.le_of_ble_eq_true rfl) (lv0 := [(0, .ref a0)]) rfl ?_
  intro p e s m args below meth c C hE hR0 hle hr hlocks hex hn
  generalize hF : F_St_takeFrame cs dE M a0 = Fv
  unfold F_St_takeFrame at hF
  unfold S_St_takeFrame at hS
  refine g_aload_n C d_St_takeFrame_0 rfl ?_
  obtain ⟨ho1, hS⟩ := hS
  refine c_getq C hE.1 (ci := 9) i_St rfl 4 (by decide) (by decide) (by decide) kf_St_26 d_St_takeFrame_1 ho1 ?_
  refine q_astore_n (r := cQ M a0 4) (lv' := [(1, va_rf (cQ M a0 4)), (0, .ref a0)]) C d_St_takeFrame_4 (by decide) rfl ?_
  refine q_aload_n (r := cQ M a0 4) C d_St_takeFrame_5 rfl ?_
  refine q_ifnull C 19 d_St_takeFrame_6 (by decide) (fun hc2 => ?_) (fun hc2 => ?_)
  · rw [if_pos hc2] at hF hS
    refine g_aload_n C d_St_takeFrame_19 rfl ?_
    obtain ⟨ho3, hS⟩ := hS
    refine c_geti C hE.1 (ci := 9) i_St rfl 2 (by decide) (by decide) (by decide) kf_St_19 d_St_takeFrame_20 ho3 ?_
    refine g_aload_n C d_St_takeFrame_23 rfl ?_
    obtain ⟨ho4, hS⟩ := hS
    refine c_getq C hE.1 (ci := 9) i_St rfl 0 (by decide) (by decide) (by decide) kf_St_10 d_St_takeFrame_24 ho4 ?_
    obtain ⟨ho5, hS⟩ := hS
    refine GW.known1 (a := (cQ M a0 0).getD 0) (cOq.at ho5).1 ?_
    obtain ⟨hs6, hS⟩ := hS
    refine c_call (av := [.ref ((cQ M a0 0).getD 0)]) (rest := [.int (cI M a0 2)]) C hE (fun _ h => h.elim) ⟨rfl, rfl⟩ hle (cc_AL_size l hf D cs B dE lim _ ((cQ M a0 0).getD 0)  hs6) (fun _ h => h.elim) kd_AL_size ki_AL (Nat.le_of_ble_eq_true rfl) (Nat.le_of_ble_eq_true rfl) d_St_takeFrame_27 (Nat.le_of_ble_eq_true rfl) (c_fV (n := 0) (ci := 13) C hE.1 rfl km_St_35 kv_AL_size kl_AL_size kd_AL_size ⟨by decide, by decide, by decide⟩ rfl rfl d_St_takeFrame_27 (cOq.at ho5).2) (fun v1 M1 hv hle => ?_) (fun E1 M1 hv hle => ?_)
    · rw [mbind_eq] at hF hS
      obtain ⟨hx, hM1⟩ := hv
      have hM2 := hM1.symm
      subst hM2
      generalize hq_w7 : F_AL_size cs dE M ((cQ M a0 0).getD 0)  = w7 at hF hS hx hle ⊢
      cases hx
      refine GW.eqs (st' := [.int w7, .int (cI M a0 2)]) rfl ?_
      refine g_icmp_lt C 48 d_St_takeFrame_30 (by decide) (fun hc8 => ?_) (fun hc8 => ?_)
      · rw [if_pos hc8] at hF hS
        refine g_aload_n C d_St_takeFrame_48 rfl ?_
        obtain ⟨ho9, hS⟩ := hS
        refine c_getq C hE.1 (ci := 9) i_St rfl 0 (by decide) (by decide) (by decide) kf_St_10 d_St_takeFrame_49 ho9 ?_
        refine g_aload_n C d_St_takeFrame_52 rfl ?_
        obtain ⟨ho10, hS⟩ := hS
        refine c_geti C hE.1 (ci := 9) i_St rfl 2 (by decide) (by decide) (by decide) kf_St_19 d_St_takeFrame_53 ho10 ?_
        obtain ⟨ho11, hS⟩ := hS
        refine GW.known2 (a := (cQ M a0 0).getD 0) (cOq.at ho11).1 ?_
        obtain ⟨hs12, hS⟩ := hS
        refine c_call (av := [.ref ((cQ M a0 0).getD 0), .int (cI M a0 2)]) (rest := []) C hE (fun _ h => h.elim) ⟨rfl, rfl⟩ hle (cc_AL_get l hf D cs B dE lim _ ((cQ M a0 0).getD 0) (cI M a0 2) hs12) (fun _ h => h.elim) kd_AL_get ki_AL (Nat.le_of_ble_eq_true rfl) (Nat.le_of_ble_eq_true rfl) d_St_takeFrame_56 (Nat.le_of_ble_eq_true rfl) (c_fV (n := 1) (ci := 13) C hE.1 rfl km_St_44 kv_AL_get kl_AL_get kd_AL_get ⟨by decide, by decide, by decide⟩ rfl rfl d_St_takeFrame_56 (cOq.at ho11).2) (fun v1 M1 hv hle => ?_) (fun E1 M1 hv hle => ?_)
        · rw [mbind_eq] at hF hS
          obtain ⟨hx, hM1⟩ := hv
          have hM2 := hM1.symm
          subst hM2
          generalize hq_w13 : F_AL_get cs dE M ((cQ M a0 0).getD 0) (cI M a0 2) = w13 at hF hS hx hle ⊢
          cases hx
          refine GW.eqs (st' := [va_rf w13]) rfl ?_
          obtain ⟨hv14, hS⟩ := hS
          refine c_castq C hE (ci := 10) rfl kc_St_31 kx_Fr_Fr d_St_takeFrame_59 hv14 ?_
          refine q_astore_n (r := w13) (lv' := [(1, va_rf w13), (0, .ref a0)]) C d_St_takeFrame_62 (by decide) rfl ?_
          refine g_aload_n C d_St_takeFrame_63 rfl ?_
          refine g_dup C d_St_takeFrame_64 rfl ?_
          obtain ⟨ho15, hS⟩ := hS
          refine c_geti C hE.1 (ci := 9) i_St rfl 2 (by decide) (by decide) (by decide) kf_St_19 d_St_takeFrame_65 ho15 ?_
          refine g_iconst (v := 1) C d_St_takeFrame_68 (by decide) ?_
          refine g_iadd C d_St_takeFrame_69 ?_
          refine GW.more (A' := gA B) (fun _ h => h.elim) ?_
          obtain ⟨ho16, hS⟩ := hS
          refine k_put (M0 := M) (M := M) C hE.1 (ci := 9) i_St rfl 2 (by decide) (by decide) kf_St_19 t_St t_St_ok n_St rfl (nf_i _) d_St_takeFrame_70 ho16 ?_
          replace hle := cLe.cP (ci := 9) (a := a0) (k := 2) (v := .int ((cI M a0 2) + 1)) hle
          refine q_aload_n (r := w13) C d_St_takeFrame_73 rfl ?_
          exact c_aret (M := cP 9 M a0 2 (.int ((cI M a0 2) + 1))) C hr (Or.inl ⟨_, rfl⟩) hlocks hle d_St_takeFrame_74 (by rw [← hF]; exact ⟨rfl, rfl⟩)
        · cases hv.1
      · rw [if_neg hc8] at hF hS
        refine g_aload_n C d_St_takeFrame_33 rfl ?_
        obtain ⟨ho17, hS⟩ := hS
        refine c_getq C hE.1 (ci := 9) i_St rfl 0 (by decide) (by decide) (by decide) kf_St_10 d_St_takeFrame_34 ho17 ?_
        refine GW.more (A' := gA B) (fun _ h => h.elim) ?_
        obtain ⟨hl18, hS⟩ := hS
        refine c_new (M0 := M) (M := M) (ci := 10) (N := 5) (fs := [.null, .int 0, .int 0, .null, .null]) C hE.1 ⟨rfl, rfl⟩ hle i_Fr rfl t_Fr t_Fr_ok kc_St_31 kn_Fr ki_Fr (by decide) d_St_takeFrame_37 hl18 (fun hle => ?_)
        refine g_dup C d_St_takeFrame_40 rfl ?_
        obtain ⟨hs19, hS⟩ := hS
        refine c_call (av := [.ref M.2.1]) (rest := [.ref M.2.1, va_rf (cQ M a0 0)]) C hE (fun _ h => h) ⟨rfl, rfl⟩ hle (cc_Fr_init l hf D cs B dE lim _ M.2.1  hs19) (fun _ h => h) kd_Fr_init ki_Fr (Nat.le_of_ble_eq_true rfl) (Nat.le_of_ble_eq_true rfl) d_St_takeFrame_41 (by simp only [List.map_cons, List.map_nil, rf_cat, List.sum_cons, List.sum_nil]; exact Nat.le_of_ble_eq_true rfl) (c_fIN (n := 0) C rfl (gE_mN hE km_St_39) kv_Fr_init kd_Fr_init ⟨by decide, by decide, by decide⟩ rfl rfl d_St_takeFrame_41) (fun v1 M1 hv hle => ?_) (fun E1 M1 hv hle => ?_)
        · rw [mbind_eq] at hF hS
          obtain ⟨hx, hM1⟩ := hv
          have hM2 := hM1.symm
          subst hM2
          generalize hq_w20 : F_Fr_init cs (gnw M (1, .inr (10, [.null, .int 0, .int 0, .null, .null])) 5) M.2.1  = w20 at hF hS hx hle ⊢
          cases hx
          refine GW.eqs (st' := [.ref M.2.1, va_rf (cQ M a0 0)]) rfl ?_
          obtain ⟨ho21, hS⟩ := hS
          refine GW.known2 (a := (cQ M a0 0).getD 0) (cOq.at ho21).1 ?_
          obtain ⟨hs22, hS⟩ := hS
          refine c_call (av := [.ref ((cQ M a0 0).getD 0), .ref M.2.1]) (rest := []) C hE (fun _ h => h) ⟨rfl, rfl⟩ hle (cc_AL_add l hf D cs B dE lim _ ((cQ M a0 0).getD 0) (some M.2.1) hs22) (fun _ h => h) kd_AL_add ki_AL (Nat.le_of_ble_eq_true rfl) (Nat.le_of_ble_eq_true rfl) d_St_takeFrame_44 (Nat.le_of_ble_eq_true rfl) (c_fV (n := 1) (ci := 13) C hE.1 rfl km_St_40 kv_AL_add kl_AL_add kd_AL_add ⟨by decide, by decide, by decide⟩ rfl rfl d_St_takeFrame_44 (cOq.at ho21).2) (fun v1 M1 hv hle => ?_) (fun E1 M1 hv hle => ?_)
          · rw [mbind_eq] at hF hS
            obtain ⟨hx, hM1⟩ := hv
            have hM2 := hM1.symm
            subst hM2
            generalize hq_w23 : F_AL_add cs dE w20 ((cQ M a0 0).getD 0) (some M.2.1) = w23 at hF hS hx hle ⊢
            cases hx
            refine GW.eqs (st' := [.int w23.1]) rfl ?_
            refine g_pop C d_St_takeFrame_47 rfl ?_
            refine g_aload_n C d_St_takeFrame_48 rfl ?_
            obtain ⟨ho24, hS⟩ := hS
            refine c_getq C hE.1 (ci := 9) i_St rfl 0 (by decide) (by decide) (by decide) kf_St_10 d_St_takeFrame_49 ho24 ?_
            refine g_aload_n C d_St_takeFrame_52 rfl ?_
            obtain ⟨ho25, hS⟩ := hS
            refine c_geti C hE.1 (ci := 9) i_St rfl 2 (by decide) (by decide) (by decide) kf_St_19 d_St_takeFrame_53 ho25 ?_
            obtain ⟨ho26, hS⟩ := hS
            refine GW.known2 (a := (cQ w23.2 a0 0).getD 0) (cOq.at ho26).1 ?_
            obtain ⟨hs27, hS⟩ := hS
            refine c_call (av := [.ref ((cQ w23.2 a0 0).getD 0), .int (cI w23.2 a0 2)]) (rest := []) C hE (fun _ h => h) ⟨rfl, rfl⟩ hle (cc_AL_get l hf D cs B dE lim _ ((cQ w23.2 a0 0).getD 0) (cI w23.2 a0 2) hs27) (fun _ h => h.elim) kd_AL_get ki_AL (Nat.le_of_ble_eq_true rfl) (Nat.le_of_ble_eq_true rfl) d_St_takeFrame_56 (Nat.le_of_ble_eq_true rfl) (c_fV (n := 1) (ci := 13) C hE.1 rfl km_St_44 kv_AL_get kl_AL_get kd_AL_get ⟨by decide, by decide, by decide⟩ rfl rfl d_St_takeFrame_56 (cOq.at ho26).2) (fun v1 M1 hv hle => ?_) (fun E1 M1 hv hle => ?_)
            · rw [mbind_eq] at hF hS
              obtain ⟨hx, hM1⟩ := hv
              have hM2 := hM1.symm
              subst hM2
              generalize hq_w28 : F_AL_get cs dE w23.2 ((cQ w23.2 a0 0).getD 0) (cI w23.2 a0 2) = w28 at hF hS hx hle ⊢
              cases hx
              refine GW.eqs (st' := [va_rf w28]) rfl ?_
              obtain ⟨hv29, hS⟩ := hS
              refine c_castq C hE (ci := 10) rfl kc_St_31 kx_Fr_Fr d_St_takeFrame_59 hv29 ?_
              refine q_astore_n (r := w28) (lv' := [(1, va_rf w28), (0, .ref a0)]) C d_St_takeFrame_62 (by decide) rfl ?_
              refine g_aload_n C d_St_takeFrame_63 rfl ?_
              refine g_dup C d_St_takeFrame_64 rfl ?_
              obtain ⟨ho30, hS⟩ := hS
              refine c_geti C hE.1 (ci := 9) i_St rfl 2 (by decide) (by decide) (by decide) kf_St_19 d_St_takeFrame_65 ho30 ?_
              refine g_iconst (v := 1) C d_St_takeFrame_68 (by decide) ?_
              refine g_iadd C d_St_takeFrame_69 ?_
              obtain ⟨ho31, hS⟩ := hS
              refine k_put (M0 := M) (M := w23.2) C hE.1 (ci := 9) i_St rfl 2 (by decide) (by decide) kf_St_19 t_St t_St_ok n_St rfl (nf_i _) d_St_takeFrame_70 ho31 ?_
              replace hle := cLe.cP (ci := 9) (a := a0) (k := 2) (v := .int ((cI w23.2 a0 2) + 1)) hle
              refine q_aload_n (r := w28) C d_St_takeFrame_73 rfl ?_
              exact c_aret (M := cP 9 w23.2 a0 2 (.int ((cI w23.2 a0 2) + 1))) C hr (Or.inl ⟨_, rfl⟩) hlocks hle d_St_takeFrame_74 (by rw [← hF]; exact ⟨rfl, rfl⟩)
            · cases hv.1
          · cases hv.1
        · cases hv.1
    · cases hv.1
  · rw [if_neg hc2] at hF hS
    refine g_aload_n C d_St_takeFrame_9 rfl ?_
    refine q_aload_n (r := cQ M a0 4) C d_St_takeFrame_10 rfl ?_
    obtain ⟨ho32, hS⟩ := hS
    refine GW.known1 (a := (cQ M a0 4).getD 0) (cOq.at ho32).1 ?_
    refine c_getqN C hE.1 (ci := 10) i_Fr rfl 4 (by decide) (by decide) (by decide) (gE_fN hE kf_St_30) d_St_takeFrame_11 (cOq.at ho32).2 ?_
    refine GW.more (A' := gA B) (fun _ h => h.elim) ?_
    obtain ⟨ho33, hS⟩ := hS
    refine k_put (M0 := M) (M := M) C hE.1 (ci := 9) i_St rfl 4 (by decide) (by decide) kf_St_26 t_St t_St_ok n_St rfl (nf_q _ (Or.inl ⟨_, rfl⟩) _) d_St_takeFrame_14 ho33 ?_
    replace hle := cLe.cP (ci := 9) (a := a0) (k := 4) (v := va_rf (cQ M ((cQ M a0 4).getD 0) 4)) hle
    refine q_aload_n (r := cQ M a0 4) C d_St_takeFrame_17 rfl ?_
    exact c_aret (M := cP 9 M a0 4 (va_rf (cQ M ((cQ M a0 4).getD 0) 4))) C hr (Or.inl ⟨_, rfl⟩) hlocks hle d_St_takeFrame_18 (by rw [← hF]; exact ⟨rfl, rfl⟩)
def F_St_giveBack (cs : Nat → ClassId) (M : gMem) (a0 : Nat) (x1 : Option Nat) : gMem := cP 9 (cP 10 (cP 10 M (x1.getD 0) 4 (va_rf (cQ M a0 4))) (x1.getD 0) 3 (va_rf (none : Option Nat))) a0 4 (va_rf x1)
def S_St_giveBack (cs : Nat → ClassId) (lim : Nat × Nat) (M : gMem) (a0 : Nat) (x1 : Option Nat) : Prop := (cOk 9 M a0) ∧ ((cOq 10 M x1) ∧ ((cOq 10 (cP 10 M (x1.getD 0) 4 (va_rf (cQ M a0 4))) x1) ∧ ((cOk 9 (cP 10 (cP 10 M (x1.getD 0) 4 (va_rf (cQ M a0 4))) (x1.getD 0) 3 (va_rf (none : Option Nat))) a0) ∧ (True))))
set_option maxRecDepth 100000 in
set_option maxHeartbeats 4000000 in
theorem cc_St_giveBack (l : Launch) (hf : l.flags = pinnedFlags ++ [noTraceFlag]) (D : va_G) (cs : Nat → ClassId) (B : Nat) (dE : Nat × Nat) (lim : Nat × Nat) (M : gMem) (a0 : Nat) (x1 : Option Nat) (hS : S_St_giveBack cs lim M a0 x1) : cMet l y_St_giveBack (Cond.code y_St_giveBack c_St_giveBack 2 none) (0) (0) D cs B dE (gA B) lim [.ref a0, va_rf x1] M (fun x M' => x = .inl none ∧ M' = (F_St_giveBack cs M a0 x1)) := by
  refine cMet.ofW (by decide) (by cases x1 <;> exact Nat.le_of_ble_eq_true rfl) (lv0 := [(0, .ref a0), (1, va_rf x1)]) (by cases x1 <;> rfl) ?_
  intro p e s m args below meth c C hE hR0 hle hr hlocks hex hn
  generalize hF : F_St_giveBack cs M a0 x1 = Fv
  unfold F_St_giveBack at hF
  unfold S_St_giveBack at hS
  refine q_aload_n (r := x1) C d_St_giveBack_0 rfl ?_
  refine g_aload_n C d_St_giveBack_1 rfl ?_
  obtain ⟨ho1, hS⟩ := hS
  refine c_getq C hE.1 (ci := 9) i_St rfl 4 (by decide) (by decide) (by decide) kf_St_26 d_St_giveBack_2 ho1 ?_
  refine GW.more (A' := gA B) (fun _ h => h.elim) ?_
  obtain ⟨ho2, hS⟩ := hS
  refine GW.known2 (a := x1.getD 0) (cOq.at ho2).1 ?_
  refine k_putN (M0 := M) (M := M) C hE.1 (ci := 10) i_Fr rfl 4 (by decide) (by decide) (gE_fN hE kf_St_30) t_Fr t_Fr_ok n_Fr rfl (nf_q _ (Or.inl ⟨_, rfl⟩) _) d_St_giveBack_5 (cOq.at ho2).2 ?_
  replace hle := cLe.cP (ci := 10) (a := x1.getD 0) (k := 4) (v := va_rf (cQ M a0 4)) hle
  refine q_aload_n (r := x1) C d_St_giveBack_8 rfl ?_
  refine g_null C d_St_giveBack_9 ?_
  refine GW.eqs (st' := [va_rf (none : Option Nat), va_rf x1]) rfl ?_
  obtain ⟨ho3, hS⟩ := hS
  refine GW.known2 (a := x1.getD 0) (cOq.at ho3).1 ?_
  refine k_putN (M0 := M) (M := cP 10 M (x1.getD 0) 4 (va_rf (cQ M a0 4))) C hE.1 (ci := 10) i_Fr rfl 3 (by decide) (by decide) (gE_fN hE kf_St_48) t_Fr t_Fr_ok n_Fr rfl (nf_q _ (Or.inl ⟨_, rfl⟩) _) d_St_giveBack_10 (cOq.at ho3).2 ?_
  replace hle := cLe.cP (ci := 10) (a := x1.getD 0) (k := 3) (v := va_rf (none : Option Nat)) hle
  refine g_aload_n C d_St_giveBack_13 rfl ?_
  refine q_aload_n (r := x1) C d_St_giveBack_14 rfl ?_
  obtain ⟨ho4, hS⟩ := hS
  refine k_put (M0 := M) (M := cP 10 (cP 10 M (x1.getD 0) 4 (va_rf (cQ M a0 4))) (x1.getD 0) 3 (va_rf (none : Option Nat))) C hE.1 (ci := 9) i_St rfl 4 (by decide) (by decide) kf_St_26 t_St t_St_ok n_St rfl (nf_q _ (Or.inl ⟨_, rfl⟩) _) d_St_giveBack_15 ho4 ?_
  replace hle := cLe.cP (ci := 9) (a := a0) (k := 4) (v := va_rf x1) hle
  exact c_vret (M := cP 9 (cP 10 (cP 10 M (x1.getD 0) 4 (va_rf (cQ M a0 4))) (x1.getD 0) 3 (va_rf (none : Option Nat))) a0 4 (va_rf x1)) C hr hlocks hle d_St_giveBack_18 (by rw [← hF]; exact ⟨rfl, rfl⟩)
def F_St_takeThing (cs : Nat → ClassId) (dE : Nat × Nat) (M : gMem) (a0 : Nat) : Int32 × gMem := mbind (F_AL_size cs dE M ((cQ M a0 1).getD 0) ) (fun w5 => if (cI M a0 3) < w5 then (((cI (cP 9 M a0 3 (.int ((cI M a0 3) + 1))) a0 3) - 1, cP 9 M a0 3 (.int ((cI M a0 3) + 1)))) else (mbind (F_Th_init cs (gnw M (1, .inr (11, [.null, .int 0, .int 0, .int 0, .null, .null, .int 0])) 7) M.2.1 ) (fun w13 => mbind (F_AL_add cs dE w13 ((cQ M a0 1).getD 0) (some M.2.1)) (fun w16 => ((cI (cP 9 w16.2 a0 3 (.int ((cI w16.2 a0 3) + 1))) a0 3) - 1, cP 9 w16.2 a0 3 (.int ((cI w16.2 a0 3) + 1)))))))
def S_St_takeThing (cs : Nat → ClassId) (lim : Nat × Nat) (dE : Nat × Nat) (M : gMem) (a0 : Nat) : Prop := (cOk 9 M a0) ∧ ((cOk 9 M a0) ∧ ((cOq 13 M (cQ M a0 1)) ∧ ((S_AL_size cs lim dE M ((cQ M a0 1).getD 0) ) ∧ (mbind (F_AL_size cs dE M ((cQ M a0 1).getD 0) ) (fun w5 => if (cI M a0 3) < w5 then ((cOk 9 M a0) ∧ ((cOk 9 M a0) ∧ ((cOk 9 (cP 9 M a0 3 (.int ((cI M a0 3) + 1))) a0) ∧ (True)))) else ((cOk 9 M a0) ∧ ((M.2.1 + 1 ≤ lim.1 ∧ M.2.2 + 7 ≤ lim.2) ∧ ((S_Th_init cs lim (gnw M (1, .inr (11, [.null, .int 0, .int 0, .int 0, .null, .null, .int 0])) 7) M.2.1 ) ∧ (mbind (F_Th_init cs (gnw M (1, .inr (11, [.null, .int 0, .int 0, .int 0, .null, .null, .int 0])) 7) M.2.1 ) (fun w13 => (cOq 13 w13 (cQ M a0 1)) ∧ ((S_AL_add cs lim dE w13 ((cQ M a0 1).getD 0) (some M.2.1)) ∧ (mbind (F_AL_add cs dE w13 ((cQ M a0 1).getD 0) (some M.2.1)) (fun w16 => (cOk 9 w16.2 a0) ∧ ((cOk 9 w16.2 a0) ∧ ((cOk 9 (cP 9 w16.2 a0 3 (.int ((cI w16.2 a0 3) + 1))) a0) ∧ (True))))))))))))))))
set_option maxRecDepth 100000 in
set_option maxHeartbeats 4000000 in
theorem cc_St_takeThing (l : Launch) (hf : l.flags = pinnedFlags ++ [noTraceFlag]) (D : va_G) (cs : Nat → ClassId) (B : Nat) (dE : Nat × Nat) (lim : Nat × Nat) (M : gMem) (a0 : Nat) (hS : S_St_takeThing cs lim dE M a0) : cMet l y_St_takeThing (Cond.code y_St_takeThing c_St_takeThing 1 (some .int)) (7) (191) D cs B dE (gA B) lim [.ref a0] M (fun x M' => x = .inl (some (.int ((F_St_takeThing cs dE M a0).1))) ∧ M' = (F_St_takeThing cs dE M a0).2) := by
  refine cMet.ofW (by decide) (Nat.le_of_ble_eq_true rfl) (lv0 := [(0, .ref a0)]) rfl ?_
  intro p e s m args below meth c C hE hR0 hle hr hlocks hex hn
  generalize hF : F_St_takeThing cs dE M a0 = Fv
  unfold F_St_takeThing at hF
  unfold S_St_takeThing at hS
  refine g_aload_n C d_St_takeThing_0 rfl ?_
  obtain ⟨ho1, hS⟩ := hS
  refine c_geti C hE.1 (ci := 9) i_St rfl 3 (by decide) (by decide) (by decide) kf_St_23 d_St_takeThing_1 ho1 ?_
  refine g_aload_n C d_St_takeThing_4 rfl ?_
  obtain ⟨ho2, hS⟩ := hS
  refine c_getq C hE.1 (ci := 9) i_St rfl 1 (by decide) (by decide) (by decide) kf_St_16 d_St_takeThing_5 ho2 ?_
  obtain ⟨ho3, hS⟩ := hS
  refine GW.known1 (a := (cQ M a0 1).getD 0) (cOq.at ho3).1 ?_
  obtain ⟨hs4, hS⟩ := hS
  refine c_call (av := [.ref ((cQ M a0 1).getD 0)]) (rest := [.int (cI M a0 3)]) C hE (fun _ h => h.elim) ⟨rfl, rfl⟩ hle (cc_AL_size l hf D cs B dE lim _ ((cQ M a0 1).getD 0)  hs4) (fun _ h => h.elim) kd_AL_size ki_AL (Nat.le_of_ble_eq_true rfl) (Nat.le_of_ble_eq_true rfl) d_St_takeThing_8 (Nat.le_of_ble_eq_true rfl) (c_fV (n := 0) (ci := 13) C hE.1 rfl km_St_35 kv_AL_size kl_AL_size kd_AL_size ⟨by decide, by decide, by decide⟩ rfl rfl d_St_takeThing_8 (cOq.at ho3).2) (fun v1 M1 hv hle => ?_) (fun E1 M1 hv hle => ?_)
  · rw [mbind_eq] at hF hS
    obtain ⟨hx, hM1⟩ := hv
    have hM2 := hM1.symm
    subst hM2
    generalize hq_w5 : F_AL_size cs dE M ((cQ M a0 1).getD 0)  = w5 at hF hS hx hle ⊢
    cases hx
    refine GW.eqs (st' := [.int w5, .int (cI M a0 3)]) rfl ?_
    refine g_icmp_lt C 29 d_St_takeThing_11 (by decide) (fun hc6 => ?_) (fun hc6 => ?_)
    · rw [if_pos hc6] at hF hS
      refine g_aload_n C d_St_takeThing_29 rfl ?_
      refine g_dup C d_St_takeThing_30 rfl ?_
      obtain ⟨ho7, hS⟩ := hS
      refine c_geti C hE.1 (ci := 9) i_St rfl 3 (by decide) (by decide) (by decide) kf_St_23 d_St_takeThing_31 ho7 ?_
      refine g_iconst (v := 1) C d_St_takeThing_34 (by decide) ?_
      refine g_iadd C d_St_takeThing_35 ?_
      refine GW.more (A' := gA B) (fun _ h => h.elim) ?_
      obtain ⟨ho8, hS⟩ := hS
      refine k_put (M0 := M) (M := M) C hE.1 (ci := 9) i_St rfl 3 (by decide) (by decide) kf_St_23 t_St t_St_ok n_St rfl (nf_i _) d_St_takeThing_36 ho8 ?_
      replace hle := cLe.cP (ci := 9) (a := a0) (k := 3) (v := .int ((cI M a0 3) + 1)) hle
      refine g_aload_n C d_St_takeThing_39 rfl ?_
      obtain ⟨ho9, hS⟩ := hS
      refine c_geti C hE.1 (ci := 9) i_St rfl 3 (by decide) (by decide) (by decide) kf_St_23 d_St_takeThing_40 ho9 ?_
      refine g_iconst (v := 1) C d_St_takeThing_43 (by decide) ?_
      refine g_isub C d_St_takeThing_44 ?_
      exact c_iret (M := cP 9 M a0 3 (.int ((cI M a0 3) + 1))) C hr hlocks hle d_St_takeThing_45 (by rw [← hF]; exact ⟨rfl, rfl⟩)
    · rw [if_neg hc6] at hF hS
      refine g_aload_n C d_St_takeThing_14 rfl ?_
      obtain ⟨ho10, hS⟩ := hS
      refine c_getq C hE.1 (ci := 9) i_St rfl 1 (by decide) (by decide) (by decide) kf_St_16 d_St_takeThing_15 ho10 ?_
      refine GW.more (A' := gA B) (fun _ h => h.elim) ?_
      obtain ⟨hl11, hS⟩ := hS
      refine c_new (M0 := M) (M := M) (ci := 11) (N := 7) (fs := [.null, .int 0, .int 0, .int 0, .null, .null, .int 0]) C hE.1 ⟨rfl, rfl⟩ hle i_Th rfl t_Th t_Th_ok kc_St_52 kn_Th ki_Th (by decide) d_St_takeThing_18 hl11 (fun hle => ?_)
      refine g_dup C d_St_takeThing_21 rfl ?_
      obtain ⟨hs12, hS⟩ := hS
      refine c_call (av := [.ref M.2.1]) (rest := [.ref M.2.1, va_rf (cQ M a0 1)]) C hE (fun _ h => h) ⟨rfl, rfl⟩ hle (cc_Th_init l hf D cs B dE lim _ M.2.1  hs12) (fun _ h => h) kd_Th_init ki_Th (Nat.le_of_ble_eq_true rfl) (Nat.le_of_ble_eq_true rfl) d_St_takeThing_22 (by simp only [List.map_cons, List.map_nil, rf_cat, List.sum_cons, List.sum_nil]; exact Nat.le_of_ble_eq_true rfl) (c_fIN (n := 0) C rfl (gE_mN hE km_St_54) kv_Th_init kd_Th_init ⟨by decide, by decide, by decide⟩ rfl rfl d_St_takeThing_22) (fun v1 M1 hv hle => ?_) (fun E1 M1 hv hle => ?_)
      · rw [mbind_eq] at hF hS
        obtain ⟨hx, hM1⟩ := hv
        have hM2 := hM1.symm
        subst hM2
        generalize hq_w13 : F_Th_init cs (gnw M (1, .inr (11, [.null, .int 0, .int 0, .int 0, .null, .null, .int 0])) 7) M.2.1  = w13 at hF hS hx hle ⊢
        cases hx
        refine GW.eqs (st' := [.ref M.2.1, va_rf (cQ M a0 1)]) rfl ?_
        obtain ⟨ho14, hS⟩ := hS
        refine GW.known2 (a := (cQ M a0 1).getD 0) (cOq.at ho14).1 ?_
        obtain ⟨hs15, hS⟩ := hS
        refine c_call (av := [.ref ((cQ M a0 1).getD 0), .ref M.2.1]) (rest := []) C hE (fun _ h => h) ⟨rfl, rfl⟩ hle (cc_AL_add l hf D cs B dE lim _ ((cQ M a0 1).getD 0) (some M.2.1) hs15) (fun _ h => h) kd_AL_add ki_AL (Nat.le_of_ble_eq_true rfl) (Nat.le_of_ble_eq_true rfl) d_St_takeThing_25 (Nat.le_of_ble_eq_true rfl) (c_fV (n := 1) (ci := 13) C hE.1 rfl km_St_40 kv_AL_add kl_AL_add kd_AL_add ⟨by decide, by decide, by decide⟩ rfl rfl d_St_takeThing_25 (cOq.at ho14).2) (fun v1 M1 hv hle => ?_) (fun E1 M1 hv hle => ?_)
        · rw [mbind_eq] at hF hS
          obtain ⟨hx, hM1⟩ := hv
          have hM2 := hM1.symm
          subst hM2
          generalize hq_w16 : F_AL_add cs dE w13 ((cQ M a0 1).getD 0) (some M.2.1) = w16 at hF hS hx hle ⊢
          cases hx
          refine GW.eqs (st' := [.int w16.1]) rfl ?_
          refine g_pop C d_St_takeThing_28 rfl ?_
          refine g_aload_n C d_St_takeThing_29 rfl ?_
          refine g_dup C d_St_takeThing_30 rfl ?_
          obtain ⟨ho17, hS⟩ := hS
          refine c_geti C hE.1 (ci := 9) i_St rfl 3 (by decide) (by decide) (by decide) kf_St_23 d_St_takeThing_31 ho17 ?_
          refine g_iconst (v := 1) C d_St_takeThing_34 (by decide) ?_
          refine g_iadd C d_St_takeThing_35 ?_
          obtain ⟨ho18, hS⟩ := hS
          refine k_put (M0 := M) (M := w16.2) C hE.1 (ci := 9) i_St rfl 3 (by decide) (by decide) kf_St_23 t_St t_St_ok n_St rfl (nf_i _) d_St_takeThing_36 ho18 ?_
          replace hle := cLe.cP (ci := 9) (a := a0) (k := 3) (v := .int ((cI w16.2 a0 3) + 1)) hle
          refine g_aload_n C d_St_takeThing_39 rfl ?_
          obtain ⟨ho19, hS⟩ := hS
          refine c_geti C hE.1 (ci := 9) i_St rfl 3 (by decide) (by decide) (by decide) kf_St_23 d_St_takeThing_40 ho19 ?_
          refine g_iconst (v := 1) C d_St_takeThing_43 (by decide) ?_
          refine g_isub C d_St_takeThing_44 ?_
          exact c_iret (M := cP 9 w16.2 a0 3 (.int ((cI w16.2 a0 3) + 1))) C hr hlocks hle d_St_takeThing_45 (by rw [← hF]; exact ⟨rfl, rfl⟩)
        · cases hv.1
      · cases hv.1
  · cases hv.1
def F_St_thingAt (cs : Nat → ClassId) (dE : Nat × Nat) (M : gMem) (a0 : Nat) (x1 : Int32) : Option Nat := if x1 < 0 then ((none : Option Nat)) else (if (cI M a0 3) ≤ x1 then ((none : Option Nat)) else (mbind (F_AL_size cs dE M ((cQ M a0 1).getD 0) ) (fun w7 => if w7 ≤ x1 then ((none : Option Nat)) else (mbind (F_AL_get cs dE M ((cQ M a0 1).getD 0) x1) (fun w12 => w12)))))
def S_St_thingAt (cs : Nat → ClassId) (lim : Nat × Nat) (dE : Nat × Nat) (M : gMem) (a0 : Nat) (x1 : Int32) : Prop := if x1 < 0 then (True) else ((cOk 9 M a0) ∧ (if (cI M a0 3) ≤ x1 then (True) else ((cOk 9 M a0) ∧ ((cOq 13 M (cQ M a0 1)) ∧ ((S_AL_size cs lim dE M ((cQ M a0 1).getD 0) ) ∧ (mbind (F_AL_size cs dE M ((cQ M a0 1).getD 0) ) (fun w7 => if w7 ≤ x1 then (True) else ((cOk 9 M a0) ∧ ((cOq 13 M (cQ M a0 1)) ∧ ((S_AL_get cs lim dE M ((cQ M a0 1).getD 0) x1) ∧ (mbind (F_AL_get cs dE M ((cQ M a0 1).getD 0) x1) (fun w12 => (w12 = none ∨ cOq 11 M w12) ∧ (True)))))))))))))
set_option maxRecDepth 100000 in
set_option maxHeartbeats 4000000 in
theorem cc_St_thingAt (l : Launch) (hf : l.flags = pinnedFlags ++ [noTraceFlag]) (D : va_G) (cs : Nat → ClassId) (B : Nat) (dE : Nat × Nat) (lim : Nat × Nat) (M : gMem) (a0 : Nat) (x1 : Int32) (hS : S_St_thingAt cs lim dE M a0 x1) : cMet l y_St_thingAt (Cond.code y_St_thingAt c_St_thingAt 2 (some (.object "EffectNodes$Thing"))) (9) (164) D cs B dE (fun _ => False) lim [.ref a0, .int x1] M (fun x M' => x = .inl (some (va_rf (F_St_thingAt cs dE M a0 x1))) ∧ M' = M) := by
  refine cMet.ofW (by decide) (Nat.le_of_ble_eq_true rfl) (lv0 := [(0, .ref a0), (1, .int x1)]) rfl ?_
  intro p e s m args below meth c C hE hR0 hle hr hlocks hex hn
  generalize hF : F_St_thingAt cs dE M a0 x1 = Fv
  unfold F_St_thingAt at hF
  unfold S_St_thingAt at hS
  refine g_iload_n C d_St_thingAt_0 rfl ?_
  refine g_if_lt C 37 d_St_thingAt_1 (by decide) (fun hc1 => ?_) (fun hc1 => ?_)
  · rw [if_pos hc1] at hF hS
    refine g_null C d_St_thingAt_37 ?_
    refine GW.eqs (st' := [va_rf (none : Option Nat)]) rfl ?_
    exact c_aret (M := M) C hr (Or.inl ⟨_, rfl⟩) hlocks hle d_St_thingAt_38 (by rw [← hF]; exact ⟨rfl, rfl⟩)
  · rw [if_neg hc1] at hF hS
    refine g_iload_n C d_St_thingAt_4 rfl ?_
    refine g_aload_n C d_St_thingAt_5 rfl ?_
    obtain ⟨ho2, hS⟩ := hS
    refine c_geti C hE.1 (ci := 9) i_St rfl 3 (by decide) (by decide) (by decide) kf_St_23 d_St_thingAt_6 ho2 ?_
    refine g_icmp_ge C 37 d_St_thingAt_9 (by decide) (fun hc3 => ?_) (fun hc3 => ?_)
    · rw [if_pos hc3] at hF hS
      refine g_null C d_St_thingAt_37 ?_
      refine GW.eqs (st' := [va_rf (none : Option Nat)]) rfl ?_
      exact c_aret (M := M) C hr (Or.inl ⟨_, rfl⟩) hlocks hle d_St_thingAt_38 (by rw [← hF]; exact ⟨rfl, rfl⟩)
    · rw [if_neg hc3] at hF hS
      refine g_iload_n C d_St_thingAt_12 rfl ?_
      refine g_aload_n C d_St_thingAt_13 rfl ?_
      obtain ⟨ho4, hS⟩ := hS
      refine c_getq C hE.1 (ci := 9) i_St rfl 1 (by decide) (by decide) (by decide) kf_St_16 d_St_thingAt_14 ho4 ?_
      obtain ⟨ho5, hS⟩ := hS
      refine GW.known1 (a := (cQ M a0 1).getD 0) (cOq.at ho5).1 ?_
      obtain ⟨hs6, hS⟩ := hS
      refine c_call (av := [.ref ((cQ M a0 1).getD 0)]) (rest := [.int x1]) C hE (fun _ h => h.elim) ⟨rfl, rfl⟩ hle (cc_AL_size l hf D cs B dE lim _ ((cQ M a0 1).getD 0)  hs6) (fun _ h => h.elim) kd_AL_size ki_AL (Nat.le_of_ble_eq_true rfl) (Nat.le_of_ble_eq_true rfl) d_St_thingAt_17 (Nat.le_of_ble_eq_true rfl) (c_fV (n := 0) (ci := 13) C hE.1 rfl km_St_35 kv_AL_size kl_AL_size kd_AL_size ⟨by decide, by decide, by decide⟩ rfl rfl d_St_thingAt_17 (cOq.at ho5).2) (fun v1 M1 hv hle => ?_) (fun E1 M1 hv hle => ?_)
      · rw [mbind_eq] at hF hS
        obtain ⟨hx, hM1⟩ := hv
        have hM2 := hM1.symm
        subst hM2
        generalize hq_w7 : F_AL_size cs dE M ((cQ M a0 1).getD 0)  = w7 at hF hS hx hle ⊢
        cases hx
        refine GW.eqs (st' := [.int w7, .int x1]) rfl ?_
        refine g_icmp_ge C 37 d_St_thingAt_20 (by decide) (fun hc8 => ?_) (fun hc8 => ?_)
        · rw [if_pos hc8] at hF hS
          refine g_null C d_St_thingAt_37 ?_
          refine GW.eqs (st' := [va_rf (none : Option Nat)]) rfl ?_
          exact c_aret (M := M) C hr (Or.inl ⟨_, rfl⟩) hlocks hle d_St_thingAt_38 (by rw [← hF]; exact ⟨rfl, rfl⟩)
        · rw [if_neg hc8] at hF hS
          refine g_aload_n C d_St_thingAt_23 rfl ?_
          obtain ⟨ho9, hS⟩ := hS
          refine c_getq C hE.1 (ci := 9) i_St rfl 1 (by decide) (by decide) (by decide) kf_St_16 d_St_thingAt_24 ho9 ?_
          refine g_iload_n C d_St_thingAt_27 rfl ?_
          obtain ⟨ho10, hS⟩ := hS
          refine GW.known2 (a := (cQ M a0 1).getD 0) (cOq.at ho10).1 ?_
          obtain ⟨hs11, hS⟩ := hS
          refine c_call (av := [.ref ((cQ M a0 1).getD 0), .int x1]) (rest := []) C hE (fun _ h => h.elim) ⟨rfl, rfl⟩ hle (cc_AL_get l hf D cs B dE lim _ ((cQ M a0 1).getD 0) x1 hs11) (fun _ h => h.elim) kd_AL_get ki_AL (Nat.le_of_ble_eq_true rfl) (Nat.le_of_ble_eq_true rfl) d_St_thingAt_28 (Nat.le_of_ble_eq_true rfl) (c_fV (n := 1) (ci := 13) C hE.1 rfl km_St_44 kv_AL_get kl_AL_get kd_AL_get ⟨by decide, by decide, by decide⟩ rfl rfl d_St_thingAt_28 (cOq.at ho10).2) (fun v1 M1 hv hle => ?_) (fun E1 M1 hv hle => ?_)
          · rw [mbind_eq] at hF hS
            obtain ⟨hx, hM1⟩ := hv
            have hM2 := hM1.symm
            subst hM2
            generalize hq_w12 : F_AL_get cs dE M ((cQ M a0 1).getD 0) x1 = w12 at hF hS hx hle ⊢
            cases hx
            refine GW.eqs (st' := [va_rf w12]) rfl ?_
            obtain ⟨hv13, hS⟩ := hS
            refine c_castq C hE (ci := 11) rfl kc_St_52 kx_Th_Th d_St_thingAt_31 hv13 ?_
            refine g_goto C 38 d_St_thingAt_34 (by decide) ?_
            exact c_aret (M := M) C hr (Or.inl ⟨_, rfl⟩) hlocks hle d_St_thingAt_38 (by rw [← hF]; exact ⟨rfl, rfl⟩)
          · cases hv.1
      · cases hv.1
def F_Ma_init (cs : Nat → ClassId) (dE : Nat × Nat) (M : gMem) (a0 : Nat) (x1 : Option Nat) : gMem := mbind (F_St_init cs dE (gnw M (1, .inr (9, [.null, .null, .int 0, .int 0, .null])) 5) M.2.1 ) (fun w3 => cP 8 (cP 8 (cP 8 w3 a0 1 (va_rf (some M.2.1))) a0 0 (va_rf x1)) a0 9 (.int (-1)))
def S_Ma_init (cs : Nat → ClassId) (lim : Nat × Nat) (dE : Nat × Nat) (M : gMem) (a0 : Nat) (x1 : Option Nat) : Prop := (M.2.1 + 1 ≤ lim.1 ∧ M.2.2 + 5 ≤ lim.2) ∧ ((S_St_init cs lim dE (gnw M (1, .inr (9, [.null, .null, .int 0, .int 0, .null])) 5) M.2.1 ) ∧ (mbind (F_St_init cs dE (gnw M (1, .inr (9, [.null, .null, .int 0, .int 0, .null])) 5) M.2.1 ) (fun w3 => (cOk 8 w3 a0) ∧ ((cOk 8 (cP 8 w3 a0 1 (va_rf (some M.2.1))) a0) ∧ ((cOk 8 (cP 8 (cP 8 w3 a0 1 (va_rf (some M.2.1))) a0 0 (va_rf x1)) a0) ∧ (True))))))
set_option maxRecDepth 100000 in
set_option maxHeartbeats 4000000 in
theorem cc_Ma_init (l : Launch) (hf : l.flags = pinnedFlags ++ [noTraceFlag]) (D : va_G) (cs : Nat → ClassId) (B : Nat) (dE : Nat × Nat) (lim : Nat × Nat) (M : gMem) (a0 : Nat) (x1 : Option Nat) (hS : S_Ma_init cs lim dE M a0 x1) : cMet l y_Ma_init (Cond.code y_Ma_init c_Ma_init 2 none) (5) (100) D cs B dE (gA B) lim [.ref a0, va_rf x1] M (fun x M' => x = .inl none ∧ M' = (F_Ma_init cs dE M a0 x1)) := by
  refine cMet.ofW (by decide) (by cases x1 <;> exact Nat.le_of_ble_eq_true rfl) (lv0 := [(0, .ref a0), (1, va_rf x1)]) (by cases x1 <;> rfl) ?_
  intro p e s m args below meth c C hE hR0 hle hr hlocks hex hn
  generalize hF : F_Ma_init cs dE M a0 x1 = Fv
  unfold F_Ma_init at hF
  unfold S_Ma_init at hS
  refine g_aload_n C d_Ma_init_0 rfl ?_
  refine g_objInit C km_Ma_3 kv_Ob_init kd_Ob_init d_Ma_init_1 (Nat.le_of_ble_eq_true rfl) (Nat.le_of_ble_eq_true rfl) ?_
  refine g_aload_n C d_Ma_init_4 rfl ?_
  refine GW.more (A' := gA B) (fun _ h => h.elim) ?_
  obtain ⟨hl1, hS⟩ := hS
  refine c_new (M0 := M) (M := M) (ci := 9) (N := 5) (fs := [.null, .null, .int 0, .int 0, .null]) C hE.1 ⟨rfl, rfl⟩ hle i_St rfl t_St t_St_ok kc_Ma_9 kn_St ki_St (by decide) d_Ma_init_5 hl1 (fun hle => ?_)
  refine g_dup C d_Ma_init_8 rfl ?_
  obtain ⟨hs2, hS⟩ := hS
  refine c_call (av := [.ref M.2.1]) (rest := [.ref M.2.1, .ref a0]) C hE (fun _ h => h) ⟨rfl, rfl⟩ hle (cc_St_init l hf D cs B dE lim _ M.2.1  hs2) (fun _ h => h) kd_St_init ki_St (Nat.le_of_ble_eq_true rfl) (Nat.le_of_ble_eq_true rfl) d_Ma_init_9 (Nat.le_of_ble_eq_true rfl) (c_fIN (n := 0) C rfl (gE_mN hE km_Ma_11) kv_St_init kd_St_init ⟨by decide, by decide, by decide⟩ rfl rfl d_Ma_init_9) (fun v1 M1 hv hle => ?_) (fun E1 M1 hv hle => ?_)
  · rw [mbind_eq] at hF hS
    obtain ⟨hx, hM1⟩ := hv
    have hM2 := hM1.symm
    subst hM2
    generalize hq_w3 : F_St_init cs dE (gnw M (1, .inr (9, [.null, .null, .int 0, .int 0, .null])) 5) M.2.1  = w3 at hF hS hx hle ⊢
    cases hx
    refine GW.eqs (st' := [.ref M.2.1, .ref a0]) rfl ?_
    obtain ⟨ho4, hS⟩ := hS
    refine GW.eqs (st' := [va_rf (some M.2.1), .ref a0]) rfl ?_
    refine k_putF (M0 := M) (M := w3) C hE.1 (ci := 8) i_Ma rfl 1 (by decide) (by decide) kf_Ma_12 t_Ma t_Ma_ok n_Ma rfl hn rfl (nf_q _ (Or.inl ⟨_, rfl⟩) _) d_Ma_init_12 ho4 ?_
    replace hle := cLe.cP (ci := 8) (a := a0) (k := 1) (v := va_rf (some M.2.1)) hle
    refine g_aload_n C d_Ma_init_15 rfl ?_
    refine q_aload_n (r := x1) C d_Ma_init_16 rfl ?_
    obtain ⟨ho5, hS⟩ := hS
    refine k_putF (M0 := M) (M := cP 8 w3 a0 1 (va_rf (some M.2.1))) C hE.1 (ci := 8) i_Ma rfl 0 (by decide) (by decide) kf_Ma_18 t_Ma t_Ma_ok n_Ma rfl hn rfl (nf_q _ (Or.inl ⟨_, rfl⟩) _) d_Ma_init_17 ho5 ?_
    replace hle := cLe.cP (ci := 8) (a := a0) (k := 0) (v := va_rf x1) hle
    refine g_aload_n C d_Ma_init_20 rfl ?_
    refine g_iconst (v := (-1)) C d_Ma_init_21 (by decide) ?_
    obtain ⟨ho6, hS⟩ := hS
    refine k_put (M0 := M) (M := cP 8 (cP 8 w3 a0 1 (va_rf (some M.2.1))) a0 0 (va_rf x1)) C hE.1 (ci := 8) i_Ma rfl 9 (by decide) (by decide) kf_Ma_22 t_Ma t_Ma_ok n_Ma rfl (nf_i _) d_Ma_init_22 ho6 ?_
    replace hle := cLe.cP (ci := 8) (a := a0) (k := 9) (v := .int (-1)) hle
    exact c_vret (M := cP 8 (cP 8 (cP 8 w3 a0 1 (va_rf (some M.2.1))) a0 0 (va_rf x1)) a0 9 (.int (-1))) C hr hlocks hle d_Ma_init_25 (by rw [← hF]; exact ⟨rfl, rfl⟩)
  · cases hv.1
def F_Ma_reset (cs : Nat → ClassId) (M : gMem) (a0 : Nat) : gMem := cP 8 (cP 8 (cP 8 (cP 8 (cP 8 (cP 8 (cP 8 M a0 4 (.int 0)) a0 5 (.int 0)) a0 6 (.int 0)) a0 7 (.int 0)) a0 8 (.int 0)) a0 9 (.int (-1))) a0 10 (va_rf (none : Option Nat))
def S_Ma_reset (cs : Nat → ClassId) (lim : Nat × Nat) (M : gMem) (a0 : Nat) : Prop := (cOk 8 M a0) ∧ ((cOk 8 (cP 8 M a0 4 (.int 0)) a0) ∧ ((cOk 8 (cP 8 (cP 8 M a0 4 (.int 0)) a0 5 (.int 0)) a0) ∧ ((cOk 8 (cP 8 (cP 8 (cP 8 M a0 4 (.int 0)) a0 5 (.int 0)) a0 6 (.int 0)) a0) ∧ ((cOk 8 (cP 8 (cP 8 (cP 8 (cP 8 M a0 4 (.int 0)) a0 5 (.int 0)) a0 6 (.int 0)) a0 7 (.int 0)) a0) ∧ ((cOk 8 (cP 8 (cP 8 (cP 8 (cP 8 (cP 8 M a0 4 (.int 0)) a0 5 (.int 0)) a0 6 (.int 0)) a0 7 (.int 0)) a0 8 (.int 0)) a0) ∧ ((cOk 8 (cP 8 (cP 8 (cP 8 (cP 8 (cP 8 (cP 8 M a0 4 (.int 0)) a0 5 (.int 0)) a0 6 (.int 0)) a0 7 (.int 0)) a0 8 (.int 0)) a0 9 (.int (-1))) a0) ∧ (True)))))))
set_option maxRecDepth 100000 in
set_option maxHeartbeats 4000000 in
theorem cc_Ma_reset (l : Launch) (hf : l.flags = pinnedFlags ++ [noTraceFlag]) (D : va_G) (cs : Nat → ClassId) (B : Nat) (dE : Nat × Nat) (lim : Nat × Nat) (M : gMem) (a0 : Nat) (hS : S_Ma_reset cs lim M a0) : cMet l y_Ma_reset (Cond.code y_Ma_reset c_Ma_reset 1 none) (0) (0) D cs B dE (gA B) lim [.ref a0] M (fun x M' => x = .inl none ∧ M' = (F_Ma_reset cs M a0)) := by
  refine cMet.ofW (by decide) (Nat.le_of_ble_eq_true rfl) (lv0 := [(0, .ref a0)]) rfl ?_
  intro p e s m args below meth c C hE hR0 hle hr hlocks hex hn
  generalize hF : F_Ma_reset cs M a0 = Fv
  unfold F_Ma_reset at hF
  unfold S_Ma_reset at hS
  refine g_aload_n C d_Ma_reset_0 rfl ?_
  refine g_iconst (v := 0) C d_Ma_reset_1 (by decide) ?_
  refine GW.more (A' := gA B) (fun _ h => h.elim) ?_
  obtain ⟨ho1, hS⟩ := hS
  refine k_put (M0 := M) (M := M) C hE.1 (ci := 8) i_Ma rfl 4 (by decide) (by decide) kf_Ma_54 t_Ma t_Ma_ok n_Ma rfl (nf_i _) d_Ma_reset_2 ho1 ?_
  replace hle := cLe.cP (ci := 8) (a := a0) (k := 4) (v := .int 0) hle
  refine g_aload_n C d_Ma_reset_5 rfl ?_
  refine g_iconst (v := 0) C d_Ma_reset_6 (by decide) ?_
  obtain ⟨ho2, hS⟩ := hS
  refine k_put (M0 := M) (M := cP 8 M a0 4 (.int 0)) C hE.1 (ci := 8) i_Ma rfl 5 (by decide) (by decide) kf_Ma_74 t_Ma t_Ma_ok n_Ma rfl (nf_i _) d_Ma_reset_7 ho2 ?_
  replace hle := cLe.cP (ci := 8) (a := a0) (k := 5) (v := .int 0) hle
  refine g_aload_n C d_Ma_reset_10 rfl ?_
  refine g_iconst (v := 0) C d_Ma_reset_11 (by decide) ?_
  obtain ⟨ho3, hS⟩ := hS
  refine k_put (M0 := M) (M := cP 8 (cP 8 M a0 4 (.int 0)) a0 5 (.int 0)) C hE.1 (ci := 8) i_Ma rfl 6 (by decide) (by decide) kf_Ma_77 t_Ma t_Ma_ok n_Ma rfl (nf_i _) d_Ma_reset_12 ho3 ?_
  replace hle := cLe.cP (ci := 8) (a := a0) (k := 6) (v := .int 0) hle
  refine g_aload_n C d_Ma_reset_15 rfl ?_
  refine g_iconst (v := 0) C d_Ma_reset_16 (by decide) ?_
  obtain ⟨ho4, hS⟩ := hS
  refine k_put (M0 := M) (M := cP 8 (cP 8 (cP 8 M a0 4 (.int 0)) a0 5 (.int 0)) a0 6 (.int 0)) C hE.1 (ci := 8) i_Ma rfl 7 (by decide) (by decide) kf_Ma_80 t_Ma t_Ma_ok n_Ma rfl (nf_i _) d_Ma_reset_17 ho4 ?_
  replace hle := cLe.cP (ci := 8) (a := a0) (k := 7) (v := .int 0) hle
  refine g_aload_n C d_Ma_reset_20 rfl ?_
  refine g_iconst (v := 0) C d_Ma_reset_21 (by decide) ?_
  obtain ⟨ho5, hS⟩ := hS
  refine k_put (M0 := M) (M := cP 8 (cP 8 (cP 8 (cP 8 M a0 4 (.int 0)) a0 5 (.int 0)) a0 6 (.int 0)) a0 7 (.int 0)) C hE.1 (ci := 8) i_Ma rfl 8 (by decide) (by decide) kf_Ma_83 t_Ma t_Ma_ok n_Ma rfl (nf_i _) d_Ma_reset_22 ho5 ?_
  replace hle := cLe.cP (ci := 8) (a := a0) (k := 8) (v := .int 0) hle
  refine g_aload_n C d_Ma_reset_25 rfl ?_
  refine g_iconst (v := (-1)) C d_Ma_reset_26 (by decide) ?_
  obtain ⟨ho6, hS⟩ := hS
  refine k_put (M0 := M) (M := cP 8 (cP 8 (cP 8 (cP 8 (cP 8 M a0 4 (.int 0)) a0 5 (.int 0)) a0 6 (.int 0)) a0 7 (.int 0)) a0 8 (.int 0)) C hE.1 (ci := 8) i_Ma rfl 9 (by decide) (by decide) kf_Ma_22 t_Ma t_Ma_ok n_Ma rfl (nf_i _) d_Ma_reset_27 ho6 ?_
  replace hle := cLe.cP (ci := 8) (a := a0) (k := 9) (v := .int (-1)) hle
  refine g_aload_n C d_Ma_reset_30 rfl ?_
  refine g_null C d_Ma_reset_31 ?_
  refine GW.eqs (st' := [va_rf (none : Option Nat), .ref a0]) rfl ?_
  obtain ⟨ho7, hS⟩ := hS
  refine k_put (M0 := M) (M := cP 8 (cP 8 (cP 8 (cP 8 (cP 8 (cP 8 M a0 4 (.int 0)) a0 5 (.int 0)) a0 6 (.int 0)) a0 7 (.int 0)) a0 8 (.int 0)) a0 9 (.int (-1))) C hE.1 (ci := 8) i_Ma rfl 10 (by decide) (by decide) kf_Ma_41 t_Ma t_Ma_ok n_Ma rfl (nf_q _ (Or.inl ⟨_, rfl⟩) _) d_Ma_reset_32 ho7 ?_
  replace hle := cLe.cP (ci := 8) (a := a0) (k := 10) (v := va_rf (none : Option Nat)) hle
  exact c_vret (M := cP 8 (cP 8 (cP 8 (cP 8 (cP 8 (cP 8 (cP 8 M a0 4 (.int 0)) a0 5 (.int 0)) a0 6 (.int 0)) a0 7 (.int 0)) a0 8 (.int 0)) a0 9 (.int (-1))) a0 10 (va_rf (none : Option Nat))) C hr hlocks hle d_Ma_reset_35 (by rw [← hF]; exact ⟨rfl, rfl⟩)
def F_Ma_unload (cs : Nat → ClassId) (M : gMem) (a0 : Nat) : gMem := mbind (F_Ma_reset cs (cP 8 M a0 2 (.int 0)) a0 ) (fun w4 => w4)
def S_Ma_unload (cs : Nat → ClassId) (lim : Nat × Nat) (M : gMem) (a0 : Nat) : Prop := (cOk 8 M a0) ∧ ((cOk 8 (cP 8 M a0 2 (.int 0)) a0) ∧ ((S_Ma_reset cs lim (cP 8 M a0 2 (.int 0)) a0 ) ∧ (mbind (F_Ma_reset cs (cP 8 M a0 2 (.int 0)) a0 ) (fun w4 => True))))
set_option maxRecDepth 100000 in
set_option maxHeartbeats 4000000 in
theorem cc_Ma_unload (l : Launch) (hf : l.flags = pinnedFlags ++ [noTraceFlag]) (D : va_G) (cs : Nat → ClassId) (B : Nat) (dE : Nat × Nat) (lim : Nat × Nat) (M : gMem) (a0 : Nat) (hS : S_Ma_unload cs lim M a0) : cMet l y_Ma_unload (Cond.code y_Ma_unload c_Ma_unload 1 none) (1) (20) D cs B dE (gA B) lim [.ref a0] M (fun x M' => x = .inl none ∧ M' = (F_Ma_unload cs M a0)) := by
  refine cMet.ofW (by decide) (Nat.le_of_ble_eq_true rfl) (lv0 := [(0, .ref a0)]) rfl ?_
  intro p e s m args below meth c C hE hR0 hle hr hlocks hex hn
  generalize hF : F_Ma_unload cs M a0 = Fv
  unfold F_Ma_unload at hF
  unfold S_Ma_unload at hS
  refine g_aload_n C d_Ma_unload_0 rfl ?_
  refine g_iconst (v := 0) C d_Ma_unload_1 (by decide) ?_
  refine GW.more (A' := gA B) (fun _ h => h.elim) ?_
  obtain ⟨ho1, hS⟩ := hS
  refine k_put (M0 := M) (M := M) C hE.1 (ci := 8) i_Ma rfl 2 (by decide) (by decide) kf_Ma_26 t_Ma t_Ma_ok n_Ma rfl (nf_z (by decide)) d_Ma_unload_2 ho1 ?_
  replace hle := cLe.cP (ci := 8) (a := a0) (k := 2) (v := .int 0) hle
  refine g_aload_n C d_Ma_unload_5 rfl ?_
  obtain ⟨ho2, hS⟩ := hS
  obtain ⟨hs3, hS⟩ := hS
  refine c_call (av := [.ref a0]) (rest := []) C hE (fun _ h => h) ⟨rfl, rfl⟩ hle (cc_Ma_reset l hf D cs B dE lim _ a0  hs3) (fun _ h => h) kd_Ma_reset ki_Ma (Nat.le_of_ble_eq_true rfl) (Nat.le_of_ble_eq_true rfl) d_Ma_unload_6 (Nat.le_of_ble_eq_true rfl) (c_fV (n := 0) (ci := 8) C hE.1 rfl km_Ma_30 kv_Ma_reset kl_Ma_reset kd_Ma_reset ⟨by decide, by decide, by decide⟩ rfl rfl d_Ma_unload_6 ho2) (fun v1 M1 hv hle => ?_) (fun E1 M1 hv hle => ?_)
  · rw [mbind_eq] at hF hS
    obtain ⟨hx, hM1⟩ := hv
    have hM2 := hM1.symm
    subst hM2
    generalize hq_w4 : F_Ma_reset cs (cP 8 M a0 2 (.int 0)) a0  = w4 at hF hS hx hle ⊢
    cases hx
    refine GW.eqs (st' := []) rfl ?_
    exact c_vret (M := w4) C hr hlocks hle d_Ma_unload_9 (by rw [← hF]; exact ⟨rfl, rfl⟩)
  · cases hv.1
def F_Ma_load (cs : Nat → ClassId) (M : gMem) (a0 : Nat) (x1 : Int32) : gMem := mbind (F_Ma_reset cs (cP 8 (cP 8 M a0 2 (.int 1)) a0 3 (.int x1)) a0 ) (fun w6 => w6)
def S_Ma_load (cs : Nat → ClassId) (lim : Nat × Nat) (M : gMem) (a0 : Nat) (x1 : Int32) : Prop := (cOk 8 M a0) ∧ ((cOk 8 (cP 8 M a0 2 (.int 1)) a0) ∧ ((x1 = 0 ∨ x1 = 1) ∧ ((cOk 8 (cP 8 (cP 8 M a0 2 (.int 1)) a0 3 (.int x1)) a0) ∧ ((S_Ma_reset cs lim (cP 8 (cP 8 M a0 2 (.int 1)) a0 3 (.int x1)) a0 ) ∧ (mbind (F_Ma_reset cs (cP 8 (cP 8 M a0 2 (.int 1)) a0 3 (.int x1)) a0 ) (fun w6 => True))))))
set_option maxRecDepth 100000 in
set_option maxHeartbeats 4000000 in
theorem cc_Ma_load (l : Launch) (hf : l.flags = pinnedFlags ++ [noTraceFlag]) (D : va_G) (cs : Nat → ClassId) (B : Nat) (dE : Nat × Nat) (lim : Nat × Nat) (M : gMem) (a0 : Nat) (x1 : Int32) (hS : S_Ma_load cs lim M a0 x1) : cMet l y_Ma_load (Cond.code y_Ma_load c_Ma_load 2 none) (1) (20) D cs B dE (gA B) lim [.ref a0, .int x1] M (fun x M' => x = .inl none ∧ M' = (F_Ma_load cs M a0 x1)) := by
  refine cMet.ofW (by decide) (Nat.le_of_ble_eq_true rfl) (lv0 := [(0, .ref a0), (1, .int x1)]) rfl ?_
  intro p e s m args below meth c C hE hR0 hle hr hlocks hex hn
  generalize hF : F_Ma_load cs M a0 x1 = Fv
  unfold F_Ma_load at hF
  unfold S_Ma_load at hS
  refine g_aload_n C d_Ma_load_0 rfl ?_
  refine g_iconst (v := 1) C d_Ma_load_1 (by decide) ?_
  refine GW.more (A' := gA B) (fun _ h => h.elim) ?_
  obtain ⟨ho1, hS⟩ := hS
  refine k_put (M0 := M) (M := M) C hE.1 (ci := 8) i_Ma rfl 2 (by decide) (by decide) kf_Ma_26 t_Ma t_Ma_ok n_Ma rfl (nf_z (by decide)) d_Ma_load_2 ho1 ?_
  replace hle := cLe.cP (ci := 8) (a := a0) (k := 2) (v := .int 1) hle
  refine g_aload_n C d_Ma_load_5 rfl ?_
  refine g_iload_n C d_Ma_load_6 rfl ?_
  obtain ⟨ho2, hS⟩ := hS
  obtain ⟨hb3, hS⟩ := hS
  refine k_put (M0 := M) (M := cP 8 M a0 2 (.int 1)) C hE.1 (ci := 8) i_Ma rfl 3 (by decide) (by decide) kf_Ma_33 t_Ma t_Ma_ok n_Ma rfl (nf_z hb3) d_Ma_load_7 ho2 ?_
  replace hle := cLe.cP (ci := 8) (a := a0) (k := 3) (v := .int x1) hle
  refine g_aload_n C d_Ma_load_10 rfl ?_
  obtain ⟨ho4, hS⟩ := hS
  obtain ⟨hs5, hS⟩ := hS
  refine c_call (av := [.ref a0]) (rest := []) C hE (fun _ h => h) ⟨rfl, rfl⟩ hle (cc_Ma_reset l hf D cs B dE lim _ a0  hs5) (fun _ h => h) kd_Ma_reset ki_Ma (Nat.le_of_ble_eq_true rfl) (Nat.le_of_ble_eq_true rfl) d_Ma_load_11 (Nat.le_of_ble_eq_true rfl) (c_fV (n := 0) (ci := 8) C hE.1 rfl km_Ma_30 kv_Ma_reset kl_Ma_reset kd_Ma_reset ⟨by decide, by decide, by decide⟩ rfl rfl d_Ma_load_11 ho4) (fun v1 M1 hv hle => ?_) (fun E1 M1 hv hle => ?_)
  · rw [mbind_eq] at hF hS
    obtain ⟨hx, hM1⟩ := hv
    have hM2 := hM1.symm
    subst hM2
    generalize hq_w6 : F_Ma_reset cs (cP 8 (cP 8 M a0 2 (.int 1)) a0 3 (.int x1)) a0  = w6 at hF hS hx hle ⊢
    cases hx
    refine GW.eqs (st' := []) rfl ?_
    exact c_vret (M := w6) C hr hlocks hle d_Ma_load_14 (by rw [← hF]; exact ⟨rfl, rfl⟩)
  · cases hv.1
def F_Ma_begin (cs : Nat → ClassId) (dE : Nat × Nat) (M : gMem) (a0 : Nat) : gMem := mbind (F_Ma_reset cs M a0 ) (fun w3 => mbind (F_St_reset cs w3 ((cQ w3 a0 1).getD 0) ) (fun w7 => mbind (F_St_takeFrame cs dE w7 ((cQ w7 a0 1).getD 0) ) (fun w11 => mbind (F_Fr_open cs (cP 8 w11.2 a0 10 (va_rf w11.1)) ((cQ (cP 8 w11.2 a0 10 (va_rf w11.1)) a0 10).getD 0) (none : Option Nat) 0) (fun w16 => cP 8 (cP 10 w16 ((cQ w16 a0 10).getD 0) 4 (va_rf (none : Option Nat))) a0 4 (.int 1)))))
def S_Ma_begin (cs : Nat → ClassId) (lim : Nat × Nat) (dE : Nat × Nat) (M : gMem) (a0 : Nat) : Prop := (cOk 8 M a0) ∧ ((S_Ma_reset cs lim M a0 ) ∧ (mbind (F_Ma_reset cs M a0 ) (fun w3 => (cOk 8 w3 a0) ∧ ((cOq 9 w3 (cQ w3 a0 1)) ∧ ((S_St_reset cs lim w3 ((cQ w3 a0 1).getD 0) ) ∧ (mbind (F_St_reset cs w3 ((cQ w3 a0 1).getD 0) ) (fun w7 => (cOk 8 w7 a0) ∧ ((cOq 9 w7 (cQ w7 a0 1)) ∧ ((S_St_takeFrame cs lim dE w7 ((cQ w7 a0 1).getD 0) ) ∧ (mbind (F_St_takeFrame cs dE w7 ((cQ w7 a0 1).getD 0) ) (fun w11 => (cOk 8 w11.2 a0) ∧ ((cOk 8 (cP 8 w11.2 a0 10 (va_rf w11.1)) a0) ∧ ((cOq 10 (cP 8 w11.2 a0 10 (va_rf w11.1)) (cQ (cP 8 w11.2 a0 10 (va_rf w11.1)) a0 10)) ∧ ((S_Fr_open cs lim (cP 8 w11.2 a0 10 (va_rf w11.1)) ((cQ (cP 8 w11.2 a0 10 (va_rf w11.1)) a0 10).getD 0) (none : Option Nat) 0) ∧ (mbind (F_Fr_open cs (cP 8 w11.2 a0 10 (va_rf w11.1)) ((cQ (cP 8 w11.2 a0 10 (va_rf w11.1)) a0 10).getD 0) (none : Option Nat) 0) (fun w16 => (cOk 8 w16 a0) ∧ ((cOq 10 w16 (cQ w16 a0 10)) ∧ ((cOk 8 (cP 10 w16 ((cQ w16 a0 10).getD 0) 4 (va_rf (none : Option Nat))) a0) ∧ (True)))))))))))))))))))
set_option maxRecDepth 100000 in
set_option maxHeartbeats 4000000 in
theorem cc_Ma_begin (l : Launch) (hf : l.flags = pinnedFlags ++ [noTraceFlag]) (D : va_G) (cs : Nat → ClassId) (B : Nat) (dE : Nat × Nat) (lim : Nat × Nat) (M : gMem) (a0 : Nat) (hS : S_Ma_begin cs lim dE M a0) : cMet l y_Ma_begin (Cond.code y_Ma_begin c_Ma_begin 1 none) (10) (212) D cs B dE (gA B) lim [.ref a0] M (fun x M' => x = .inl none ∧ M' = (F_Ma_begin cs dE M a0)) := by
  refine cMet.ofW (by decide) (Nat.le_of_ble_eq_true rfl) (lv0 := [(0, .ref a0)]) rfl ?_
  intro p e s m args below meth c C hE hR0 hle hr hlocks hex hn
  generalize hF : F_Ma_begin cs dE M a0 = Fv
  unfold F_Ma_begin at hF
  unfold S_Ma_begin at hS
  refine g_aload_n C d_Ma_begin_0 rfl ?_
  refine GW.more (A' := gA B) (fun _ h => h.elim) ?_
  obtain ⟨ho1, hS⟩ := hS
  obtain ⟨hs2, hS⟩ := hS
  refine c_call (av := [.ref a0]) (rest := []) C hE (fun _ h => h) ⟨rfl, rfl⟩ hle (cc_Ma_reset l hf D cs B dE lim _ a0  hs2) (fun _ h => h) kd_Ma_reset ki_Ma (Nat.le_of_ble_eq_true rfl) (Nat.le_of_ble_eq_true rfl) d_Ma_begin_1 (Nat.le_of_ble_eq_true rfl) (c_fV (n := 0) (ci := 8) C hE.1 rfl km_Ma_30 kv_Ma_reset kl_Ma_reset kd_Ma_reset ⟨by decide, by decide, by decide⟩ rfl rfl d_Ma_begin_1 ho1) (fun v1 M1 hv hle => ?_) (fun E1 M1 hv hle => ?_)
  · rw [mbind_eq] at hF hS
    obtain ⟨hx, hM1⟩ := hv
    have hM2 := hM1.symm
    subst hM2
    generalize hq_w3 : F_Ma_reset cs M a0  = w3 at hF hS hx hle ⊢
    cases hx
    refine GW.eqs (st' := []) rfl ?_
    refine g_aload_n C d_Ma_begin_4 rfl ?_
    obtain ⟨ho4, hS⟩ := hS
    refine c_getq C hE.1 (ci := 8) i_Ma rfl 1 (by decide) (by decide) (by decide) kf_Ma_12 d_Ma_begin_5 ho4 ?_
    obtain ⟨ho5, hS⟩ := hS
    refine GW.known1 (a := (cQ w3 a0 1).getD 0) (cOq.at ho5).1 ?_
    obtain ⟨hs6, hS⟩ := hS
    refine c_call (av := [.ref ((cQ w3 a0 1).getD 0)]) (rest := []) C hE (fun _ h => h) ⟨rfl, rfl⟩ hle (cc_St_reset l hf D cs B dE lim _ ((cQ w3 a0 1).getD 0)  hs6) (fun _ h => h) kd_St_reset ki_St (Nat.le_of_ble_eq_true rfl) (Nat.le_of_ble_eq_true rfl) d_Ma_begin_8 (Nat.le_of_ble_eq_true rfl) (c_fV (n := 0) (ci := 9) C hE.1 rfl km_Ma_36 kv_St_reset kl_St_reset kd_St_reset ⟨by decide, by decide, by decide⟩ rfl rfl d_Ma_begin_8 (cOq.at ho5).2) (fun v1 M1 hv hle => ?_) (fun E1 M1 hv hle => ?_)
    · rw [mbind_eq] at hF hS
      obtain ⟨hx, hM1⟩ := hv
      have hM2 := hM1.symm
      subst hM2
      generalize hq_w7 : F_St_reset cs w3 ((cQ w3 a0 1).getD 0)  = w7 at hF hS hx hle ⊢
      cases hx
      refine GW.eqs (st' := []) rfl ?_
      refine g_aload_n C d_Ma_begin_11 rfl ?_
      refine g_aload_n C d_Ma_begin_12 rfl ?_
      obtain ⟨ho8, hS⟩ := hS
      refine c_getq C hE.1 (ci := 8) i_Ma rfl 1 (by decide) (by decide) (by decide) kf_Ma_12 d_Ma_begin_13 ho8 ?_
      obtain ⟨ho9, hS⟩ := hS
      refine GW.known1 (a := (cQ w7 a0 1).getD 0) (cOq.at ho9).1 ?_
      obtain ⟨hs10, hS⟩ := hS
      refine c_call (av := [.ref ((cQ w7 a0 1).getD 0)]) (rest := [.ref a0]) C hE (fun _ h => h) ⟨rfl, rfl⟩ hle (cc_St_takeFrame l hf D cs B dE lim _ ((cQ w7 a0 1).getD 0)  hs10) (fun _ h => h) kd_St_takeFrame ki_St (Nat.le_of_ble_eq_true rfl) (Nat.le_of_ble_eq_true rfl) d_Ma_begin_16 (Nat.le_of_ble_eq_true rfl) (c_fV (n := 0) (ci := 9) C hE.1 rfl km_Ma_37 kv_St_takeFrame kl_St_takeFrame kd_St_takeFrame ⟨by decide, by decide, by decide⟩ rfl rfl d_Ma_begin_16 (cOq.at ho9).2) (fun v1 M1 hv hle => ?_) (fun E1 M1 hv hle => ?_)
      · rw [mbind_eq] at hF hS
        obtain ⟨hx, hM1⟩ := hv
        have hM2 := hM1.symm
        subst hM2
        generalize hq_w11 : F_St_takeFrame cs dE w7 ((cQ w7 a0 1).getD 0)  = w11 at hF hS hx hle ⊢
        cases hx
        refine GW.eqs (st' := [va_rf w11.1, .ref a0]) rfl ?_
        obtain ⟨ho12, hS⟩ := hS
        refine k_put (M0 := M) (M := w11.2) C hE.1 (ci := 8) i_Ma rfl 10 (by decide) (by decide) kf_Ma_41 t_Ma t_Ma_ok n_Ma rfl (nf_q _ (Or.inl ⟨_, rfl⟩) _) d_Ma_begin_19 ho12 ?_
        replace hle := cLe.cP (ci := 8) (a := a0) (k := 10) (v := va_rf w11.1) hle
        refine g_aload_n C d_Ma_begin_22 rfl ?_
        obtain ⟨ho13, hS⟩ := hS
        refine c_getq C hE.1 (ci := 8) i_Ma rfl 10 (by decide) (by decide) (by decide) kf_Ma_41 d_Ma_begin_23 ho13 ?_
        refine g_null C d_Ma_begin_26 ?_
        refine GW.eqs (st' := [va_rf (none : Option Nat), va_rf (cQ (cP 8 w11.2 a0 10 (va_rf w11.1)) a0 10)]) rfl ?_
        refine g_iconst (v := 0) C d_Ma_begin_27 (by decide) ?_
        obtain ⟨ho14, hS⟩ := hS
        refine GW.known3 (a := (cQ (cP 8 w11.2 a0 10 (va_rf w11.1)) a0 10).getD 0) (cOq.at ho14).1 ?_
        obtain ⟨hs15, hS⟩ := hS
        refine c_call (av := [.ref ((cQ (cP 8 w11.2 a0 10 (va_rf w11.1)) a0 10).getD 0), va_rf (none : Option Nat), .int 0]) (rest := []) C hE (fun _ h => h) ⟨rfl, rfl⟩ hle (cc_Fr_open l hf D cs B dE lim _ ((cQ (cP 8 w11.2 a0 10 (va_rf w11.1)) a0 10).getD 0) (none : Option Nat) 0 hs15) (fun _ h => h) kd_Fr_open ki_Fr (Nat.le_of_ble_eq_true rfl) (Nat.le_of_ble_eq_true rfl) d_Ma_begin_28 (Nat.le_of_ble_eq_true rfl) (c_fV (n := 2) (ci := 10) C hE.1 rfl km_Ma_45 kv_Fr_open kl_Fr_open kd_Fr_open ⟨by decide, by decide, by decide⟩ rfl rfl d_Ma_begin_28 (cOq.at ho14).2) (fun v1 M1 hv hle => ?_) (fun E1 M1 hv hle => ?_)
        · rw [mbind_eq] at hF hS
          obtain ⟨hx, hM1⟩ := hv
          have hM2 := hM1.symm
          subst hM2
          generalize hq_w16 : F_Fr_open cs (cP 8 w11.2 a0 10 (va_rf w11.1)) ((cQ (cP 8 w11.2 a0 10 (va_rf w11.1)) a0 10).getD 0) (none : Option Nat) 0 = w16 at hF hS hx hle ⊢
          cases hx
          refine GW.eqs (st' := []) rfl ?_
          refine g_aload_n C d_Ma_begin_31 rfl ?_
          obtain ⟨ho17, hS⟩ := hS
          refine c_getq C hE.1 (ci := 8) i_Ma rfl 10 (by decide) (by decide) (by decide) kf_Ma_41 d_Ma_begin_32 ho17 ?_
          refine g_null C d_Ma_begin_35 ?_
          refine GW.eqs (st' := [va_rf (none : Option Nat), va_rf (cQ w16 a0 10)]) rfl ?_
          obtain ⟨ho18, hS⟩ := hS
          refine GW.known2 (a := (cQ w16 a0 10).getD 0) (cOq.at ho18).1 ?_
          refine k_putN (M0 := M) (M := w16) C hE.1 (ci := 10) i_Fr rfl 4 (by decide) (by decide) (gE_fN hE kf_Ma_51) t_Fr t_Fr_ok n_Fr rfl (nf_q _ (Or.inl ⟨_, rfl⟩) _) d_Ma_begin_36 (cOq.at ho18).2 ?_
          replace hle := cLe.cP (ci := 10) (a := (cQ w16 a0 10).getD 0) (k := 4) (v := va_rf (none : Option Nat)) hle
          refine g_aload_n C d_Ma_begin_39 rfl ?_
          refine g_iconst (v := 1) C d_Ma_begin_40 (by decide) ?_
          obtain ⟨ho19, hS⟩ := hS
          refine k_put (M0 := M) (M := cP 10 w16 ((cQ w16 a0 10).getD 0) 4 (va_rf (none : Option Nat))) C hE.1 (ci := 8) i_Ma rfl 4 (by decide) (by decide) kf_Ma_54 t_Ma t_Ma_ok n_Ma rfl (nf_i _) d_Ma_begin_41 ho19 ?_
          replace hle := cLe.cP (ci := 8) (a := a0) (k := 4) (v := .int 1) hle
          exact c_vret (M := cP 8 (cP 10 w16 ((cQ w16 a0 10).getD 0) 4 (va_rf (none : Option Nat))) a0 4 (.int 1)) C hr hlocks hle d_Ma_begin_44 (by rw [← hF]; exact ⟨rfl, rfl⟩)
        · cases hv.1
      · cases hv.1
    · cases hv.1
  · cases hv.1
def F_Ma_bind (cs : Nat → ClassId) (M : gMem) (a0 : Nat) (x1 : Option Nat) (x2 : Int32) : gMem := mbind (F_Fr_pop cs M (x1.getD 0) ) (fun w3 => mbind (F_Fr_valueOf cs w3.2 (x1.getD 0) x2) (fun w6 => mbind (F_Fr_push cs w3.2 (x1.getD 0) w6) (fun w9 => mbind (F_Fr_give cs w9 (x1.getD 0) x2 w3.1) (fun w12 => w12))))
def S_Ma_bind (cs : Nat → ClassId) (lim : Nat × Nat) (M : gMem) (a0 : Nat) (x1 : Option Nat) (x2 : Int32) : Prop := (cOq 10 M x1) ∧ ((S_Fr_pop cs lim M (x1.getD 0) ) ∧ (mbind (F_Fr_pop cs M (x1.getD 0) ) (fun w3 => (cOq 10 w3.2 x1) ∧ ((S_Fr_valueOf cs lim w3.2 (x1.getD 0) x2) ∧ (mbind (F_Fr_valueOf cs w3.2 (x1.getD 0) x2) (fun w6 => (cOq 10 w3.2 x1) ∧ ((S_Fr_push cs lim w3.2 (x1.getD 0) w6) ∧ (mbind (F_Fr_push cs w3.2 (x1.getD 0) w6) (fun w9 => (cOq 10 w9 x1) ∧ ((S_Fr_give cs lim w9 (x1.getD 0) x2 w3.1) ∧ (mbind (F_Fr_give cs w9 (x1.getD 0) x2 w3.1) (fun w12 => True))))))))))))
set_option maxRecDepth 100000 in
set_option maxHeartbeats 4000000 in
theorem cc_Ma_bind (l : Launch) (hf : l.flags = pinnedFlags ++ [noTraceFlag]) (D : va_G) (cs : Nat → ClassId) (B : Nat) (dE : Nat × Nat) (lim : Nat × Nat) (M : gMem) (a0 : Nat) (x1 : Option Nat) (x2 : Int32) (hS : S_Ma_bind cs lim M a0 x1 x2) : cMet l y_Ma_bind (Cond.code y_Ma_bind c_Ma_bind 4 none) (1) (22) D cs B dE (gA B) lim [.ref a0, va_rf x1, .int x2] M (fun x M' => x = .inl none ∧ M' = (F_Ma_bind cs M a0 x1 x2)) := by
  refine cMet.ofW (by decide) (by cases x1 <;> exact Nat.le_of_ble_eq_true rfl) (lv0 := [(0, .ref a0), (1, va_rf x1), (2, .int x2)]) (by cases x1 <;> rfl) ?_
  intro p e s m args below meth c C hE hR0 hle hr hlocks hex hn
  generalize hF : F_Ma_bind cs M a0 x1 x2 = Fv
  unfold F_Ma_bind at hF
  unfold S_Ma_bind at hS
  refine q_aload_n (r := x1) C d_Ma_bind_0 rfl ?_
  refine GW.more (A' := gA B) (fun _ h => h.elim) ?_
  obtain ⟨ho1, hS⟩ := hS
  refine GW.known1 (a := x1.getD 0) (cOq.at ho1).1 ?_
  obtain ⟨hs2, hS⟩ := hS
  refine c_call (av := [.ref (x1.getD 0)]) (rest := []) C hE (fun _ h => h) ⟨rfl, rfl⟩ hle (cc_Fr_pop l hf D cs B dE lim _ (x1.getD 0)  hs2) (fun _ h => h) kd_Fr_pop ki_Fr (Nat.le_of_ble_eq_true rfl) (Nat.le_of_ble_eq_true rfl) d_Ma_bind_1 (Nat.le_of_ble_eq_true rfl) (c_fV (n := 0) (ci := 10) C hE.1 rfl km_Ma_109 kv_Fr_pop kl_Fr_pop kd_Fr_pop ⟨by decide, by decide, by decide⟩ rfl rfl d_Ma_bind_1 (cOq.at ho1).2) (fun v1 M1 hv hle => ?_) (fun E1 M1 hv hle => ?_)
  · rw [mbind_eq] at hF hS
    obtain ⟨hx, hM1⟩ := hv
    have hM2 := hM1.symm
    subst hM2
    generalize hq_w3 : F_Fr_pop cs M (x1.getD 0)  = w3 at hF hS hx hle ⊢
    cases hx
    refine GW.eqs (st' := [.int w3.1]) rfl ?_
    refine g_istore_n (lv' := [(3, .int w3.1), (0, .ref a0), (1, va_rf x1), (2, .int x2)]) C d_Ma_bind_4 (by decide) rfl ?_
    refine q_aload_n (r := x1) C d_Ma_bind_5 rfl ?_
    refine q_aload_n (r := x1) C d_Ma_bind_6 rfl ?_
    refine g_iload_n C d_Ma_bind_7 rfl ?_
    obtain ⟨ho4, hS⟩ := hS
    refine GW.known2 (a := x1.getD 0) (cOq.at ho4).1 ?_
    obtain ⟨hs5, hS⟩ := hS
    refine c_call (av := [.ref (x1.getD 0), .int x2]) (rest := [va_rf x1]) C hE (fun _ h => h) ⟨rfl, rfl⟩ hle (cc_Fr_valueOf l hf D cs B dE lim _ (x1.getD 0) x2 hs5) (fun _ h => h.elim) kd_Fr_valueOf ki_Fr (Nat.le_of_ble_eq_true rfl) (Nat.le_of_ble_eq_true rfl) d_Ma_bind_8 (by simp only [List.map_cons, List.map_nil, rf_cat, List.sum_cons, List.sum_nil]; exact Nat.le_of_ble_eq_true rfl) (c_fV (n := 1) (ci := 10) C hE.1 rfl km_Ma_100 kv_Fr_valueOf kl_Fr_valueOf kd_Fr_valueOf ⟨by decide, by decide, by decide⟩ rfl rfl d_Ma_bind_8 (cOq.at ho4).2) (fun v1 M1 hv hle => ?_) (fun E1 M1 hv hle => ?_)
    · rw [mbind_eq] at hF hS
      obtain ⟨hx, hM1⟩ := hv
      have hM2 := hM1.symm
      subst hM2
      generalize hq_w6 : F_Fr_valueOf cs w3.2 (x1.getD 0) x2 = w6 at hF hS hx hle ⊢
      cases hx
      refine GW.eqs (st' := [.int w6, va_rf x1]) rfl ?_
      obtain ⟨ho7, hS⟩ := hS
      refine GW.known2 (a := x1.getD 0) (cOq.at ho7).1 ?_
      obtain ⟨hs8, hS⟩ := hS
      refine c_call (av := [.ref (x1.getD 0), .int w6]) (rest := []) C hE (fun _ h => h) ⟨rfl, rfl⟩ hle (cc_Fr_push l hf D cs B dE lim _ (x1.getD 0) w6 hs8) (fun _ h => h) kd_Fr_push ki_Fr (Nat.le_of_ble_eq_true rfl) (Nat.le_of_ble_eq_true rfl) d_Ma_bind_11 (Nat.le_of_ble_eq_true rfl) (c_fV (n := 1) (ci := 10) C hE.1 rfl km_Ma_96 kv_Fr_push kl_Fr_push kd_Fr_push ⟨by decide, by decide, by decide⟩ rfl rfl d_Ma_bind_11 (cOq.at ho7).2) (fun v1 M1 hv hle => ?_) (fun E1 M1 hv hle => ?_)
      · rw [mbind_eq] at hF hS
        obtain ⟨hx, hM1⟩ := hv
        have hM2 := hM1.symm
        subst hM2
        generalize hq_w9 : F_Fr_push cs w3.2 (x1.getD 0) w6 = w9 at hF hS hx hle ⊢
        cases hx
        refine GW.eqs (st' := []) rfl ?_
        refine q_aload_n (r := x1) C d_Ma_bind_14 rfl ?_
        refine g_iload_n C d_Ma_bind_15 rfl ?_
        refine g_iload_n C d_Ma_bind_16 rfl ?_
        obtain ⟨ho10, hS⟩ := hS
        refine GW.known3 (a := x1.getD 0) (cOq.at ho10).1 ?_
        obtain ⟨hs11, hS⟩ := hS
        refine c_call (av := [.ref (x1.getD 0), .int x2, .int w3.1]) (rest := []) C hE (fun _ h => h) ⟨rfl, rfl⟩ hle (cc_Fr_give l hf D cs B dE lim _ (x1.getD 0) x2 w3.1 hs11) (fun _ h => h) kd_Fr_give ki_Fr (Nat.le_of_ble_eq_true rfl) (Nat.le_of_ble_eq_true rfl) d_Ma_bind_17 (Nat.le_of_ble_eq_true rfl) (c_fV (n := 2) (ci := 10) C hE.1 rfl km_Ma_136 kv_Fr_give kl_Fr_give kd_Fr_give ⟨by decide, by decide, by decide⟩ rfl rfl d_Ma_bind_17 (cOq.at ho10).2) (fun v1 M1 hv hle => ?_) (fun E1 M1 hv hle => ?_)
        · rw [mbind_eq] at hF hS
          obtain ⟨hx, hM1⟩ := hv
          have hM2 := hM1.symm
          subst hM2
          generalize hq_w12 : F_Fr_give cs w9 (x1.getD 0) x2 w3.1 = w12 at hF hS hx hle ⊢
          cases hx
          refine GW.eqs (st' := []) rfl ?_
          exact c_vret (M := w12) C hr hlocks hle d_Ma_bind_20 (by rw [← hF]; exact ⟨rfl, rfl⟩)
        · cases hv.1
      · cases hv.1
    · cases hv.1
  · cases hv.1
