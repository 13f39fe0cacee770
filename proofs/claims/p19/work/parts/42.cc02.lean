def F_Ck_lookName (cs : Nat → ClassId) (M : gMem) (a0 : Nat) (x1 : Option Nat) (x2 : Int32) : Int32 × gMem := if (cI M (x1.getD 0) 1) < 0 then (mbind (F_Ck_blame cs M a0 5 x2) (fun w5 => (w5.1, w5.2))) else (if 10 ≤ (cI M (x1.getD 0) 1) then (mbind (F_Ck_blame cs M a0 5 x2) (fun w9 => (w9.1, w9.2))) else (if (aF M ((cQ M a0 4).getD 0) (cI M (x1.getD 0) 1).toNatClampNeg) = (-1) then (mbind (F_Ck_blame cs M a0 5 x2) (fun w21 => (w21.1, w21.2))) else (mbind (F_Ck_seenAs cs M (aF M ((cQ M a0 4).getD 0) (cI M (x1.getD 0) 1).toNatClampNeg) 0) (fun w18 => (w18, M)))))
def S_Ck_lookName (cs : Nat → ClassId) (lim : Nat × Nat) (M : gMem) (a0 : Nat) (x1 : Option Nat) (x2 : Int32) : Prop := (cOq 4 M x1) ∧ (if (cI M (x1.getD 0) 1) < 0 then ((cOk 6 M a0) ∧ ((S_Ck_blame cs lim M a0 5 x2) ∧ (mbind (F_Ck_blame cs M a0 5 x2) (fun w5 => True)))) else (if 10 ≤ (cI M (x1.getD 0) 1) then ((cOk 6 M a0) ∧ ((S_Ck_blame cs lim M a0 5 x2) ∧ (mbind (F_Ck_blame cs M a0 5 x2) (fun w9 => True)))) else ((cOk 6 M a0) ∧ ((cQ M a0 4 = some ((cQ M a0 4).getD 0) ∧ aIk (cs 0) M ((cQ M a0 4).getD 0)) ∧ ((vp_in (cI M (x1.getD 0) 1) (aL M ((cQ M a0 4).getD 0))) ∧ (if (aF M ((cQ M a0 4).getD 0) (cI M (x1.getD 0) 1).toNatClampNeg) = (-1) then ((cOk 6 M a0) ∧ ((S_Ck_blame cs lim M a0 5 x2) ∧ (mbind (F_Ck_blame cs M a0 5 x2) (fun w21 => True)))) else ((cOk 6 M a0) ∧ ((cQ M a0 4 = some ((cQ M a0 4).getD 0) ∧ aIk (cs 0) M ((cQ M a0 4).getD 0)) ∧ ((vp_in (cI M (x1.getD 0) 1) (aL M ((cQ M a0 4).getD 0))) ∧ ((S_Ck_seenAs cs lim M (aF M ((cQ M a0 4).getD 0) (cI M (x1.getD 0) 1).toNatClampNeg) 0) ∧ (mbind (F_Ck_seenAs cs M (aF M ((cQ M a0 4).getD 0) (cI M (x1.getD 0) 1).toNatClampNeg) 0) (fun w18 => True))))))))))))
set_option maxRecDepth 100000 in
set_option maxHeartbeats 4000000 in
theorem cc_Ck_lookName (l : Launch) (hf : l.flags = pinnedFlags ++ [noTraceFlag]) (D : va_G) (cs : Nat → ClassId) (B : Nat) (dE : Nat × Nat) (lim : Nat × Nat) (M : gMem) (a0 : Nat) (x1 : Option Nat) (x2 : Int32) (hS : S_Ck_lookName cs lim M a0 x1 x2) : cMet l y_Ck_lookName (Cond.code y_Ck_lookName c_Ck_lookName 4 (some .int)) (1) (22) D cs B dE (gA B) lim [.ref a0, va_rf x1, .int x2] M (fun x M' => x = .inl (some (.int ((F_Ck_lookName cs M a0 x1 x2).1))) ∧ M' = (F_Ck_lookName cs M a0 x1 x2).2) := by
  refine cMet.ofW (by decide) (by cases x1 <;> exact Nat.le_of_ble_eq_true rfl) (lv0 := [(0, .ref a0), (1, va_rf x1), (2, .int x2)]) (by cases x1 <;> rfl) ?_
  intro p e s m args below meth c C hE hR0 hle hr hlocks hex hn
  generalize hF : F_Ck_lookName cs M a0 x1 x2 = Fv
  unfold F_Ck_lookName at hF
  unfold S_Ck_lookName at hS
  refine q_aload_n (r := x1) C d_Ck_lookName_0 rfl ?_
  obtain ⟨ho1, hS⟩ := hS
  refine GW.known1 (a := x1.getD 0) (cOq.at ho1).1 ?_
  refine c_geti C hE.1 (ci := 4) i_No rfl 1 (by decide) (by decide) (by decide) kf_Ck_114 d_Ck_lookName_1 (cOq.at ho1).2 ?_
  refine g_istore_n (lv' := [(3, .int (cI M (x1.getD 0) 1)), (0, .ref a0), (1, va_rf x1), (2, .int x2)]) C d_Ck_lookName_4 (by decide) rfl ?_
  refine g_iload_n C d_Ck_lookName_5 rfl ?_
  refine g_if_lt C 25 d_Ck_lookName_6 (by decide) (fun hc2 => ?_) (fun hc2 => ?_)
  · rw [if_pos hc2] at hF hS
    refine g_aload_n C d_Ck_lookName_25 rfl ?_
    refine g_iconst (v := 5) C d_Ck_lookName_26 (by decide) ?_
    refine g_iload_n C d_Ck_lookName_27 rfl ?_
    refine GW.more (A' := gA B) (fun _ h => h.elim) ?_
    obtain ⟨ho3, hS⟩ := hS
    obtain ⟨hs4, hS⟩ := hS
    refine c_call (av := [.ref a0, .int 5, .int x2]) (rest := []) C hE (fun _ h => h) ⟨rfl, rfl⟩ hle (cc_Ck_blame l hf D cs B dE lim _ a0 5 x2 hs4) (fun _ h => h) kd_Ck_blame ki_Ck (Nat.le_of_ble_eq_true rfl) (Nat.le_of_ble_eq_true rfl) d_Ck_lookName_28 (Nat.le_of_ble_eq_true rfl) (c_fV (n := 2) (ci := 6) C hE.1 rfl km_Ck_58 kv_Ck_blame kl_Ck_blame kd_Ck_blame ⟨by decide, by decide, by decide⟩ rfl rfl d_Ck_lookName_28 ho3) (fun v1 M1 hv hle => ?_) (fun E1 M1 hv hle => ?_)
    · rw [mbind_eq] at hF hS
      obtain ⟨hx, hM1⟩ := hv
      have hM2 := hM1.symm
      subst hM2
      generalize hq_w5 : F_Ck_blame cs M a0 5 x2 = w5 at hF hS hx hle ⊢
      cases hx
      refine GW.eqs (st' := [.int w5.1]) rfl ?_
      exact c_iret (M := w5.2) C hr hlocks hle d_Ck_lookName_31 (by rw [← hF]; exact ⟨rfl, rfl⟩)
    · cases hv.1
  · rw [if_neg hc2] at hF hS
    refine g_iload_n C d_Ck_lookName_9 rfl ?_
    refine g_bipush (v := 10) C d_Ck_lookName_10 (by decide) ?_
    refine g_icmp_ge C 25 d_Ck_lookName_12 (by decide) (fun hc6 => ?_) (fun hc6 => ?_)
    · rw [if_pos hc6] at hF hS
      refine g_aload_n C d_Ck_lookName_25 rfl ?_
      refine g_iconst (v := 5) C d_Ck_lookName_26 (by decide) ?_
      refine g_iload_n C d_Ck_lookName_27 rfl ?_
      refine GW.more (A' := gA B) (fun _ h => h.elim) ?_
      obtain ⟨ho7, hS⟩ := hS
      obtain ⟨hs8, hS⟩ := hS
      refine c_call (av := [.ref a0, .int 5, .int x2]) (rest := []) C hE (fun _ h => h) ⟨rfl, rfl⟩ hle (cc_Ck_blame l hf D cs B dE lim _ a0 5 x2 hs8) (fun _ h => h) kd_Ck_blame ki_Ck (Nat.le_of_ble_eq_true rfl) (Nat.le_of_ble_eq_true rfl) d_Ck_lookName_28 (Nat.le_of_ble_eq_true rfl) (c_fV (n := 2) (ci := 6) C hE.1 rfl km_Ck_58 kv_Ck_blame kl_Ck_blame kd_Ck_blame ⟨by decide, by decide, by decide⟩ rfl rfl d_Ck_lookName_28 ho7) (fun v1 M1 hv hle => ?_) (fun E1 M1 hv hle => ?_)
      · rw [mbind_eq] at hF hS
        obtain ⟨hx, hM1⟩ := hv
        have hM2 := hM1.symm
        subst hM2
        generalize hq_w9 : F_Ck_blame cs M a0 5 x2 = w9 at hF hS hx hle ⊢
        cases hx
        refine GW.eqs (st' := [.int w9.1]) rfl ?_
        exact c_iret (M := w9.2) C hr hlocks hle d_Ck_lookName_31 (by rw [← hF]; exact ⟨rfl, rfl⟩)
      · cases hv.1
    · rw [if_neg hc6] at hF hS
      refine g_aload_n C d_Ck_lookName_15 rfl ?_
      obtain ⟨ho10, hS⟩ := hS
      refine c_getq C hE.1 (ci := 6) i_Ck rfl 4 (by decide) (by decide) (by decide) kf_Ck_9 d_Ck_lookName_16 ho10 ?_
      refine g_iload_n C d_Ck_lookName_19 rfl ?_
      obtain ⟨ha11, hS⟩ := hS
      refine GW.known2 (a := (cQ M a0 4).getD 0) ha11.1 ?_
      obtain ⟨hi12, hS⟩ := hS
      refine c_iald C hE.1 d_Ck_lookName_20 ha11.2 hi12 ?_
      refine g_iconst (v := (-1)) C d_Ck_lookName_21 (by decide) ?_
      refine g_icmp_ne C 32 d_Ck_lookName_22 (by decide) (fun hc13 => ?_) (fun hc13 => ?_)
      · rw [if_neg hc13] at hF hS
        refine g_aload_n C d_Ck_lookName_32 rfl ?_
        obtain ⟨ho14, hS⟩ := hS
        refine c_getq C hE.1 (ci := 6) i_Ck rfl 4 (by decide) (by decide) (by decide) kf_Ck_9 d_Ck_lookName_33 ho14 ?_
        refine g_iload_n C d_Ck_lookName_36 rfl ?_
        obtain ⟨ha15, hS⟩ := hS
        refine GW.known2 (a := (cQ M a0 4).getD 0) ha15.1 ?_
        obtain ⟨hi16, hS⟩ := hS
        refine c_iald C hE.1 d_Ck_lookName_37 ha15.2 hi16 ?_
        refine g_iconst (v := 0) C d_Ck_lookName_38 (by decide) ?_
        obtain ⟨hs17, hS⟩ := hS
        refine c_call (av := [.int (aF M ((cQ M a0 4).getD 0) (cI M (x1.getD 0) 1).toNatClampNeg), .int 0]) (rest := []) C hE (fun _ h => h.elim) ⟨rfl, rfl⟩ hle (cc_Ck_seenAs l hf D cs B dE lim _ (aF M ((cQ M a0 4).getD 0) (cI M (x1.getD 0) 1).toNatClampNeg) 0 hs17) (fun _ h => h.elim) kd_Ck_seenAs ki_Ck (Nat.le_of_ble_eq_true rfl) (Nat.le_of_ble_eq_true rfl) d_Ck_lookName_39 (Nat.le_of_ble_eq_true rfl) (c_fS (n := 2) C km_Ck_83 ks_Ck_seenAs ki_Ck kd_Ck_seenAs ⟨by decide, by decide, by decide⟩ rfl rfl d_Ck_lookName_39) (fun v1 M1 hv hle => ?_) (fun E1 M1 hv hle => ?_)
        · rw [mbind_eq] at hF hS
          obtain ⟨hx, hM1⟩ := hv
          have hM2 := hM1.symm
          subst hM2
          generalize hq_w18 : F_Ck_seenAs cs M (aF M ((cQ M a0 4).getD 0) (cI M (x1.getD 0) 1).toNatClampNeg) 0 = w18 at hF hS hx hle ⊢
          cases hx
          refine GW.eqs (st' := [.int w18]) rfl ?_
          refine GW.more (A' := gA B) (fun _ h => h.elim) ?_
          exact c_iret (M := M) C hr hlocks hle d_Ck_lookName_42 (by rw [← hF]; exact ⟨rfl, rfl⟩)
        · cases hv.1
      · rw [if_pos hc13] at hF hS
        refine g_aload_n C d_Ck_lookName_25 rfl ?_
        refine g_iconst (v := 5) C d_Ck_lookName_26 (by decide) ?_
        refine g_iload_n C d_Ck_lookName_27 rfl ?_
        refine GW.more (A' := gA B) (fun _ h => h.elim) ?_
        obtain ⟨ho19, hS⟩ := hS
        obtain ⟨hs20, hS⟩ := hS
        refine c_call (av := [.ref a0, .int 5, .int x2]) (rest := []) C hE (fun _ h => h) ⟨rfl, rfl⟩ hle (cc_Ck_blame l hf D cs B dE lim _ a0 5 x2 hs20) (fun _ h => h) kd_Ck_blame ki_Ck (Nat.le_of_ble_eq_true rfl) (Nat.le_of_ble_eq_true rfl) d_Ck_lookName_28 (Nat.le_of_ble_eq_true rfl) (c_fV (n := 2) (ci := 6) C hE.1 rfl km_Ck_58 kv_Ck_blame kl_Ck_blame kd_Ck_blame ⟨by decide, by decide, by decide⟩ rfl rfl d_Ck_lookName_28 ho19) (fun v1 M1 hv hle => ?_) (fun E1 M1 hv hle => ?_)
        · rw [mbind_eq] at hF hS
          obtain ⟨hx, hM1⟩ := hv
          have hM2 := hM1.symm
          subst hM2
          generalize hq_w21 : F_Ck_blame cs M a0 5 x2 = w21 at hF hS hx hle ⊢
          cases hx
          refine GW.eqs (st' := [.int w21.1]) rfl ?_
          exact c_iret (M := w21.2) C hr hlocks hle d_Ck_lookName_31 (by rw [← hF]; exact ⟨rfl, rfl⟩)
        · cases hv.1
def F_Ck_typeIn (cs : Nat → ClassId) (M : gMem) (x0 : Int32) : Int32 := x0 / 256
def S_Ck_typeIn (cs : Nat → ClassId) (lim : Nat × Nat) (M : gMem) (x0 : Int32) : Prop := True
set_option maxRecDepth 100000 in
set_option maxHeartbeats 4000000 in
theorem cc_Ck_typeIn (l : Launch) (hf : l.flags = pinnedFlags ++ [noTraceFlag]) (D : va_G) (cs : Nat → ClassId) (B : Nat) (dE : Nat × Nat) (lim : Nat × Nat) (M : gMem) (x0 : Int32) (hS : S_Ck_typeIn cs lim M x0) : cMet l y_Ck_typeIn (Cond.code y_Ck_typeIn c_Ck_typeIn 1 (some .int)) (0) (0) D cs B dE (fun _ => False) lim [.int x0] M (fun x M' => x = .inl (some (.int (F_Ck_typeIn cs M x0))) ∧ M' = M) := by
  refine cMet.ofW (by decide) (Nat.le_of_ble_eq_true rfl) (lv0 := [(0, .int x0)]) rfl ?_
  intro p e s m args below meth c C hE hR0 hle hr hlocks hex hn
  generalize hF : F_Ck_typeIn cs M x0 = Fv
  unfold F_Ck_typeIn at hF
  unfold S_Ck_typeIn at hS
  refine g_iload_n C d_Ck_typeIn_0 rfl ?_
  refine g_sipush (v := 256) C d_Ck_typeIn_1 (by decide) ?_
  refine g_idiv C d_Ck_typeIn_4 (by decide) ?_
  exact c_iret (M := M) C hr hlocks hle d_Ck_typeIn_5 (by rw [← hF]; exact ⟨rfl, rfl⟩)
def F_Ck_rename (cs : Nat → ClassId) (M : gMem) (a0 : Nat) (x1 : Int32) (x2 : Int32) : Int32 × gMem := if x1 < 0 then (((-1), M)) else (if x1 < 10 then ((aF M ((cQ M a0 4).getD 0) x1.toNatClampNeg, aPi (cs 0) M ((cQ M a0 4).getD 0) x1.toNatClampNeg x2)) else (((-1), M)))
def S_Ck_rename (cs : Nat → ClassId) (lim : Nat × Nat) (M : gMem) (a0 : Nat) (x1 : Int32) (x2 : Int32) : Prop := if x1 < 0 then (True) else (if x1 < 10 then ((cOk 6 M a0) ∧ ((cQ M a0 4 = some ((cQ M a0 4).getD 0) ∧ aIk (cs 0) M ((cQ M a0 4).getD 0)) ∧ ((vp_in x1 (aL M ((cQ M a0 4).getD 0))) ∧ ((cOk 6 M a0) ∧ ((cQ M a0 4 = some ((cQ M a0 4).getD 0) ∧ aIk (cs 0) M ((cQ M a0 4).getD 0)) ∧ ((vp_in x1 (aL M ((cQ M a0 4).getD 0))) ∧ (True))))))) else (True))
set_option maxRecDepth 100000 in
set_option maxHeartbeats 4000000 in
theorem cc_Ck_rename (l : Launch) (hf : l.flags = pinnedFlags ++ [noTraceFlag]) (D : va_G) (cs : Nat → ClassId) (B : Nat) (dE : Nat × Nat) (lim : Nat × Nat) (M : gMem) (a0 : Nat) (x1 : Int32) (x2 : Int32) (hS : S_Ck_rename cs lim M a0 x1 x2) : cMet l y_Ck_rename (Cond.code y_Ck_rename c_Ck_rename 4 (some .int)) (0) (0) D cs B dE (gA B) lim [.ref a0, .int x1, .int x2] M (fun x M' => x = .inl (some (.int ((F_Ck_rename cs M a0 x1 x2).1))) ∧ M' = (F_Ck_rename cs M a0 x1 x2).2) := by
  refine cMet.ofW (by decide) (Nat.le_of_ble_eq_true rfl) (lv0 := [(0, .ref a0), (1, .int x1), (2, .int x2)]) rfl ?_
  intro p e s m args below meth c C hE hR0 hle hr hlocks hex hn
  generalize hF : F_Ck_rename cs M a0 x1 x2 = Fv
  unfold F_Ck_rename at hF
  unfold S_Ck_rename at hS
  refine g_iload_n C d_Ck_rename_0 rfl ?_
  refine g_if_lt C 10 d_Ck_rename_1 (by decide) (fun hc1 => ?_) (fun hc1 => ?_)
  · rw [if_pos hc1] at hF hS
    refine g_iconst (v := (-1)) C d_Ck_rename_10 (by decide) ?_
    refine GW.more (A' := gA B) (fun _ h => h.elim) ?_
    exact c_iret (M := M) C hr hlocks hle d_Ck_rename_11 (by rw [← hF]; exact ⟨rfl, rfl⟩)
  · rw [if_neg hc1] at hF hS
    refine g_iload_n C d_Ck_rename_4 rfl ?_
    refine g_bipush (v := 10) C d_Ck_rename_5 (by decide) ?_
    refine g_icmp_lt C 12 d_Ck_rename_7 (by decide) (fun hc2 => ?_) (fun hc2 => ?_)
    · rw [if_pos hc2] at hF hS
      refine g_aload_n C d_Ck_rename_12 rfl ?_
      obtain ⟨ho3, hS⟩ := hS
      refine c_getq C hE.1 (ci := 6) i_Ck rfl 4 (by decide) (by decide) (by decide) kf_Ck_9 d_Ck_rename_13 ho3 ?_
      refine g_iload_n C d_Ck_rename_16 rfl ?_
      obtain ⟨ha4, hS⟩ := hS
      refine GW.known2 (a := (cQ M a0 4).getD 0) ha4.1 ?_
      obtain ⟨hi5, hS⟩ := hS
      refine c_iald C hE.1 d_Ck_rename_17 ha4.2 hi5 ?_
      refine g_istore_n (lv' := [(3, .int (aF M ((cQ M a0 4).getD 0) x1.toNatClampNeg)), (0, .ref a0), (1, .int x1), (2, .int x2)]) C d_Ck_rename_18 (by decide) rfl ?_
      refine g_aload_n C d_Ck_rename_19 rfl ?_
      obtain ⟨ho6, hS⟩ := hS
      refine c_getq C hE.1 (ci := 6) i_Ck rfl 4 (by decide) (by decide) (by decide) kf_Ck_9 d_Ck_rename_20 ho6 ?_
      refine g_iload_n C d_Ck_rename_23 rfl ?_
      refine g_iload_n C d_Ck_rename_24 rfl ?_
      refine GW.more (A' := gA B) (fun _ h => h.elim) ?_
      obtain ⟨ha7, hS⟩ := hS
      refine GW.known3 (a := (cQ M a0 4).getD 0) ha7.1 ?_
      obtain ⟨hi8, hS⟩ := hS
      refine k_iast (M0 := M) (M := M) C hE.1 d_Ck_rename_25 ha7.2 hi8 ?_
      replace hle := cLe.aPi (cA := cs 0) (a := (cQ M a0 4).getD 0) (i := x1.toNatClampNeg) (x := x2) hle
      refine g_iload_n C d_Ck_rename_26 rfl ?_
      exact c_iret (M := aPi (cs 0) M ((cQ M a0 4).getD 0) x1.toNatClampNeg x2) C hr hlocks hle d_Ck_rename_27 (by rw [← hF]; exact ⟨rfl, rfl⟩)
    · rw [if_neg hc2] at hF hS
      refine g_iconst (v := (-1)) C d_Ck_rename_10 (by decide) ?_
      refine GW.more (A' := gA B) (fun _ h => h.elim) ?_
      exact c_iret (M := M) C hr hlocks hle d_Ck_rename_11 (by rw [← hF]; exact ⟨rfl, rfl⟩)
def F_Ck_effectsIn (cs : Nat → ClassId) (M : gMem) (x0 : Int32) : Int32 := x0 &&& 255
def S_Ck_effectsIn (cs : Nat → ClassId) (lim : Nat × Nat) (M : gMem) (x0 : Int32) : Prop := True
set_option maxRecDepth 100000 in
set_option maxHeartbeats 4000000 in
theorem cc_Ck_effectsIn (l : Launch) (hf : l.flags = pinnedFlags ++ [noTraceFlag]) (D : va_G) (cs : Nat → ClassId) (B : Nat) (dE : Nat × Nat) (lim : Nat × Nat) (M : gMem) (x0 : Int32) (hS : S_Ck_effectsIn cs lim M x0) : cMet l y_Ck_effectsIn (Cond.code y_Ck_effectsIn c_Ck_effectsIn 1 (some .int)) (0) (0) D cs B dE (fun _ => False) lim [.int x0] M (fun x M' => x = .inl (some (.int (F_Ck_effectsIn cs M x0))) ∧ M' = M) := by
  refine cMet.ofW (by decide) (Nat.le_of_ble_eq_true rfl) (lv0 := [(0, .int x0)]) rfl ?_
  intro p e s m args below meth c C hE hR0 hle hr hlocks hex hn
  generalize hF : F_Ck_effectsIn cs M x0 = Fv
  unfold F_Ck_effectsIn at hF
  unfold S_Ck_effectsIn at hS
  refine g_iload_n C d_Ck_effectsIn_0 rfl ?_
  refine g_sipush (v := 255) C d_Ck_effectsIn_1 (by decide) ?_
  refine g_iand C d_Ck_effectsIn_4 ?_
  exact c_iret (M := M) C hr hlocks hle d_Ck_effectsIn_5 (by rw [← hF]; exact ⟨rfl, rfl⟩)
def F_Ck_lookLet (cs : Nat → ClassId) (n : Nat) (Lf : gMem → Nat → Int32 → Int32 → Int32 × gMem) (M : gMem) (a0 : Nat) (x1 : Option Nat) (x2 : Int32) : Int32 × gMem := mbind (Lf M a0 (cI M (x1.getD 0) 4) (x2 + 1)) (fun w4 => if w4.1 = (-1) then (((-1), w4.2)) else (mbind (F_Ck_typeIn cs w4.2 w4.1) (fun w8 => mbind (F_Ck_rename cs w4.2 a0 (cI w4.2 (x1.getD 0) 2) w8) (fun w11 => mbind (Lf w11.2 a0 (cI w11.2 (x1.getD 0) 5) (x2 + 1)) (fun w15 => mbind (F_Ck_rename cs w15.2 a0 (cI w15.2 (x1.getD 0) 2) w11.1) (fun w19 => if w15.1 = (-1) then (((-1), w19.2)) else (mbind (F_Ck_typeIn cs w19.2 w15.1) (fun w22 => mbind (F_Ck_effectsIn cs w19.2 w4.1) (fun w24 => mbind (F_Ck_effectsIn cs w19.2 w15.1) (fun w26 => mbind (F_Ck_seenAs cs w19.2 w22 (w24 ||| w26)) (fun w28 => (w28, w19.2))))))))))))
def S_Ck_lookLet (cs : Nat → ClassId) (lim : Nat × Nat) (n : Nat) (Lf : gMem → Nat → Int32 → Int32 → Int32 × gMem) (Ls : gMem → Nat → Int32 → Int32 → Prop) (M : gMem) (a0 : Nat) (x1 : Option Nat) (x2 : Int32) : Prop := (cOq 4 M x1) ∧ ((cOk 6 M a0) ∧ ((Ls M a0 (cI M (x1.getD 0) 4) (x2 + 1)) ∧ (mbind (Lf M a0 (cI M (x1.getD 0) 4) (x2 + 1)) (fun w4 => if w4.1 = (-1) then (True) else ((cOq 4 w4.2 x1) ∧ ((S_Ck_typeIn cs lim w4.2 w4.1) ∧ (mbind (F_Ck_typeIn cs w4.2 w4.1) (fun w8 => (cOk 6 w4.2 a0) ∧ ((S_Ck_rename cs lim w4.2 a0 (cI w4.2 (x1.getD 0) 2) w8) ∧ (mbind (F_Ck_rename cs w4.2 a0 (cI w4.2 (x1.getD 0) 2) w8) (fun w11 => (cOq 4 w11.2 x1) ∧ ((cOk 6 w11.2 a0) ∧ ((Ls w11.2 a0 (cI w11.2 (x1.getD 0) 5) (x2 + 1)) ∧ (mbind (Lf w11.2 a0 (cI w11.2 (x1.getD 0) 5) (x2 + 1)) (fun w15 => (cOq 4 w15.2 x1) ∧ ((cOk 6 w15.2 a0) ∧ ((S_Ck_rename cs lim w15.2 a0 (cI w15.2 (x1.getD 0) 2) w11.1) ∧ (mbind (F_Ck_rename cs w15.2 a0 (cI w15.2 (x1.getD 0) 2) w11.1) (fun w19 => if w15.1 = (-1) then (True) else ((S_Ck_typeIn cs lim w19.2 w15.1) ∧ (mbind (F_Ck_typeIn cs w19.2 w15.1) (fun w22 => (S_Ck_effectsIn cs lim w19.2 w4.1) ∧ (mbind (F_Ck_effectsIn cs w19.2 w4.1) (fun w24 => (S_Ck_effectsIn cs lim w19.2 w15.1) ∧ (mbind (F_Ck_effectsIn cs w19.2 w15.1) (fun w26 => (S_Ck_seenAs cs lim w19.2 w22 (w24 ||| w26)) ∧ (mbind (F_Ck_seenAs cs w19.2 w22 (w24 ||| w26)) (fun w28 => True))))))))))))))))))))))))))))
set_option maxRecDepth 100000 in
set_option maxHeartbeats 4000000 in
theorem cc_Ck_lookLet (l : Launch) (hf : l.flags = pinnedFlags ++ [noTraceFlag]) (D : va_G) (cs : Nat → ClassId) (B : Nat) (dE : Nat × Nat) (lim : Nat × Nat) (n : Nat) (Lf : gMem → Nat → Int32 → Int32 → Int32 × gMem) (Ls : gMem → Nat → Int32 → Int32 → Prop) (frL loL : Nat) (hL : ∀ (M : gMem) (a0 : Nat) (x1 x2 : Int32), Ls M a0 x1 x2 → cMet l y_Ck_look (Cond.code y_Ck_look c_Ck_look 4 (some .int)) frL loL D cs B dE (gA B) lim [.ref a0, .int x1, .int x2] M (fun x M' => x = .inl (some (.int ((Lf M a0 x1 x2).1))) ∧ M' = (Lf M a0 x1 x2).2)) (M : gMem) (a0 : Nat) (x1 : Option Nat) (x2 : Int32) (hS : S_Ck_lookLet cs lim n Lf Ls M a0 x1 x2) : cMet l y_Ck_lookLet (Cond.code y_Ck_lookLet c_Ck_lookLet 6 (some .int)) (frL + 8) (loL + 280) D cs B dE (gA B) lim [.ref a0, va_rf x1, .int x2] M (fun x M' => x = .inl (some (.int ((F_Ck_lookLet cs n Lf M a0 x1 x2).1))) ∧ M' = (F_Ck_lookLet cs n Lf M a0 x1 x2).2) := by
  refine cMet.ofW (by decide) (by cases x1 <;> exact Nat.le_of_ble_eq_true rfl) (lv0 := [(0, .ref a0), (1, va_rf x1), (2, .int x2)]) (by cases x1 <;> rfl) ?_
  intro p e s m args below meth c C hE hR0 hle hr hlocks hex hn
  generalize hF : F_Ck_lookLet cs n Lf M a0 x1 x2 = Fv
  unfold F_Ck_lookLet at hF
  unfold S_Ck_lookLet at hS
  refine g_aload_n C d_Ck_lookLet_0 rfl ?_
  refine q_aload_n (r := x1) C d_Ck_lookLet_1 rfl ?_
  obtain ⟨ho1, hS⟩ := hS
  refine GW.known1 (a := x1.getD 0) (cOq.at ho1).1 ?_
  refine c_geti C hE.1 (ci := 4) i_No rfl 4 (by decide) (by decide) (by decide) kf_Ck_117 d_Ck_lookLet_2 (cOq.at ho1).2 ?_
  refine g_iload_n C d_Ck_lookLet_5 rfl ?_
  refine g_iconst (v := 1) C d_Ck_lookLet_6 (by decide) ?_
  refine g_iadd C d_Ck_lookLet_7 ?_
  refine GW.more (A' := gA B) (fun _ h => h.elim) ?_
  obtain ⟨ho2, hS⟩ := hS
  obtain ⟨hs3, hS⟩ := hS
  refine c_call (av := [.ref a0, .int (cI M (x1.getD 0) 4), .int (x2 + 1)]) (rest := []) C hE (fun _ h => h) ⟨rfl, rfl⟩ hle (hL _ a0 (cI M (x1.getD 0) 4) (x2 + 1) hs3) (fun _ h => h) kd_Ck_look ki_Ck (by dsimp only; omega) (by dsimp only; omega) d_Ck_lookLet_8 (Nat.le_of_ble_eq_true rfl) (c_fV (n := 2) (ci := 6) C hE.1 rfl km_Ck_54 kv_Ck_look kl_Ck_look kd_Ck_look ⟨by decide, by decide, by decide⟩ rfl rfl d_Ck_lookLet_8 ho2) (fun v1 M1 hv hle => ?_) (fun E1 M1 hv hle => ?_)
  · rw [mbind_eq] at hF hS
    obtain ⟨hx, hM1⟩ := hv
    have hM2 := hM1.symm
    subst hM2
    generalize hq_w4 : Lf M a0 (cI M (x1.getD 0) 4) (x2 + 1) = w4 at hF hS hx hle ⊢
    cases hx
    refine GW.eqs (st' := [.int w4.1]) rfl ?_
    refine g_istore_n (lv' := [(3, .int w4.1), (0, .ref a0), (1, va_rf x1), (2, .int x2)]) C d_Ck_lookLet_11 (by decide) rfl ?_
    refine g_iload_n C d_Ck_lookLet_12 rfl ?_
    refine g_iconst (v := (-1)) C d_Ck_lookLet_13 (by decide) ?_
    refine g_icmp_ne C 19 d_Ck_lookLet_14 (by decide) (fun hc5 => ?_) (fun hc5 => ?_)
    · rw [if_neg hc5] at hF hS
      refine g_aload_n C d_Ck_lookLet_19 rfl ?_
      refine q_aload_n (r := x1) C d_Ck_lookLet_20 rfl ?_
      obtain ⟨ho6, hS⟩ := hS
      refine GW.known1 (a := x1.getD 0) (cOq.at ho6).1 ?_
      refine c_geti C hE.1 (ci := 4) i_No rfl 2 (by decide) (by decide) (by decide) kf_Ck_120 d_Ck_lookLet_21 (cOq.at ho6).2 ?_
      refine g_iload_n C d_Ck_lookLet_24 rfl ?_
      obtain ⟨hs7, hS⟩ := hS
      refine c_call (av := [.int w4.1]) (rest := [.int (cI w4.2 (x1.getD 0) 2), .ref a0]) C hE (fun _ h => h) ⟨rfl, rfl⟩ hle (cc_Ck_typeIn l hf D cs B dE lim _ w4.1 hs7) (fun _ h => h.elim) kd_Ck_typeIn ki_Ck (by dsimp only; omega) (by dsimp only; omega) d_Ck_lookLet_25 (Nat.le_of_ble_eq_true rfl) (c_fS (n := 1) C km_Ck_69 ks_Ck_typeIn ki_Ck kd_Ck_typeIn ⟨by decide, by decide, by decide⟩ rfl rfl d_Ck_lookLet_25) (fun v1 M1 hv hle => ?_) (fun E1 M1 hv hle => ?_)
      · rw [mbind_eq] at hF hS
        obtain ⟨hx, hM1⟩ := hv
        have hM2 := hM1.symm
        subst hM2
        generalize hq_w8 : F_Ck_typeIn cs w4.2 w4.1 = w8 at hF hS hx hle ⊢
        cases hx
        refine GW.eqs (st' := [.int w8, .int (cI w4.2 (x1.getD 0) 2), .ref a0]) rfl ?_
        obtain ⟨ho9, hS⟩ := hS
        obtain ⟨hs10, hS⟩ := hS
        refine c_call (av := [.ref a0, .int (cI w4.2 (x1.getD 0) 2), .int w8]) (rest := []) C hE (fun _ h => h) ⟨rfl, rfl⟩ hle (cc_Ck_rename l hf D cs B dE lim _ a0 (cI w4.2 (x1.getD 0) 2) w8 hs10) (fun _ h => h) kd_Ck_rename ki_Ck (by dsimp only; omega) (by dsimp only; omega) d_Ck_lookLet_28 (Nat.le_of_ble_eq_true rfl) (c_fV (n := 2) (ci := 6) C hE.1 rfl km_Ck_123 kv_Ck_rename kl_Ck_rename kd_Ck_rename ⟨by decide, by decide, by decide⟩ rfl rfl d_Ck_lookLet_28 ho9) (fun v1 M1 hv hle => ?_) (fun E1 M1 hv hle => ?_)
        · rw [mbind_eq] at hF hS
          obtain ⟨hx, hM1⟩ := hv
          have hM2 := hM1.symm
          subst hM2
          generalize hq_w11 : F_Ck_rename cs w4.2 a0 (cI w4.2 (x1.getD 0) 2) w8 = w11 at hF hS hx hle ⊢
          cases hx
          refine GW.eqs (st' := [.int w11.1]) rfl ?_
          refine g_istore (lv' := [(4, .int w11.1), (3, .int w4.1), (0, .ref a0), (1, va_rf x1), (2, .int x2)]) C d_Ck_lookLet_31 (by decide) rfl ?_
          refine g_aload_n C d_Ck_lookLet_33 rfl ?_
          refine q_aload_n (r := x1) C d_Ck_lookLet_34 rfl ?_
          obtain ⟨ho12, hS⟩ := hS
          refine GW.known1 (a := x1.getD 0) (cOq.at ho12).1 ?_
          refine c_geti C hE.1 (ci := 4) i_No rfl 5 (by decide) (by decide) (by decide) kf_Ck_126 d_Ck_lookLet_35 (cOq.at ho12).2 ?_
          refine g_iload_n C d_Ck_lookLet_38 rfl ?_
          refine g_iconst (v := 1) C d_Ck_lookLet_39 (by decide) ?_
          refine g_iadd C d_Ck_lookLet_40 ?_
          obtain ⟨ho13, hS⟩ := hS
          obtain ⟨hs14, hS⟩ := hS
          refine c_call (av := [.ref a0, .int (cI w11.2 (x1.getD 0) 5), .int (x2 + 1)]) (rest := []) C hE (fun _ h => h) ⟨rfl, rfl⟩ hle (hL _ a0 (cI w11.2 (x1.getD 0) 5) (x2 + 1) hs14) (fun _ h => h) kd_Ck_look ki_Ck (by dsimp only; omega) (by dsimp only; omega) d_Ck_lookLet_41 (Nat.le_of_ble_eq_true rfl) (c_fV (n := 2) (ci := 6) C hE.1 rfl km_Ck_54 kv_Ck_look kl_Ck_look kd_Ck_look ⟨by decide, by decide, by decide⟩ rfl rfl d_Ck_lookLet_41 ho13) (fun v1 M1 hv hle => ?_) (fun E1 M1 hv hle => ?_)
          · rw [mbind_eq] at hF hS
            obtain ⟨hx, hM1⟩ := hv
            have hM2 := hM1.symm
            subst hM2
            generalize hq_w15 : Lf w11.2 a0 (cI w11.2 (x1.getD 0) 5) (x2 + 1) = w15 at hF hS hx hle ⊢
            cases hx
            refine GW.eqs (st' := [.int w15.1]) rfl ?_
            refine g_istore (lv' := [(5, .int w15.1), (4, .int w11.1), (3, .int w4.1), (0, .ref a0), (1, va_rf x1), (2, .int x2)]) C d_Ck_lookLet_44 (by decide) rfl ?_
            refine g_aload_n C d_Ck_lookLet_46 rfl ?_
            refine q_aload_n (r := x1) C d_Ck_lookLet_47 rfl ?_
            obtain ⟨ho16, hS⟩ := hS
            refine GW.known1 (a := x1.getD 0) (cOq.at ho16).1 ?_
            refine c_geti C hE.1 (ci := 4) i_No rfl 2 (by decide) (by decide) (by decide) kf_Ck_120 d_Ck_lookLet_48 (cOq.at ho16).2 ?_
            refine g_iload C d_Ck_lookLet_51 rfl ?_
            obtain ⟨ho17, hS⟩ := hS
            obtain ⟨hs18, hS⟩ := hS
            refine c_call (av := [.ref a0, .int (cI w15.2 (x1.getD 0) 2), .int w11.1]) (rest := []) C hE (fun _ h => h) ⟨rfl, rfl⟩ hle (cc_Ck_rename l hf D cs B dE lim _ a0 (cI w15.2 (x1.getD 0) 2) w11.1 hs18) (fun _ h => h) kd_Ck_rename ki_Ck (by dsimp only; omega) (by dsimp only; omega) d_Ck_lookLet_53 (Nat.le_of_ble_eq_true rfl) (c_fV (n := 2) (ci := 6) C hE.1 rfl km_Ck_123 kv_Ck_rename kl_Ck_rename kd_Ck_rename ⟨by decide, by decide, by decide⟩ rfl rfl d_Ck_lookLet_53 ho17) (fun v1 M1 hv hle => ?_) (fun E1 M1 hv hle => ?_)
            · rw [mbind_eq] at hF hS
              obtain ⟨hx, hM1⟩ := hv
              have hM2 := hM1.symm
              subst hM2
              generalize hq_w19 : F_Ck_rename cs w15.2 a0 (cI w15.2 (x1.getD 0) 2) w11.1 = w19 at hF hS hx hle ⊢
              cases hx
              refine GW.eqs (st' := [.int w19.1]) rfl ?_
              refine g_pop C d_Ck_lookLet_56 rfl ?_
              refine g_iload C d_Ck_lookLet_57 rfl ?_
              refine g_iconst (v := (-1)) C d_Ck_lookLet_59 (by decide) ?_
              refine g_icmp_ne C 65 d_Ck_lookLet_60 (by decide) (fun hc20 => ?_) (fun hc20 => ?_)
              · rw [if_neg hc20] at hF hS
                refine g_iload C d_Ck_lookLet_65 rfl ?_
                obtain ⟨hs21, hS⟩ := hS
                refine c_call (av := [.int w15.1]) (rest := []) C hE (fun _ h => h) ⟨rfl, rfl⟩ hle (cc_Ck_typeIn l hf D cs B dE lim _ w15.1 hs21) (fun _ h => h.elim) kd_Ck_typeIn ki_Ck (by dsimp only; omega) (by dsimp only; omega) d_Ck_lookLet_67 (Nat.le_of_ble_eq_true rfl) (c_fS (n := 1) C km_Ck_69 ks_Ck_typeIn ki_Ck kd_Ck_typeIn ⟨by decide, by decide, by decide⟩ rfl rfl d_Ck_lookLet_67) (fun v1 M1 hv hle => ?_) (fun E1 M1 hv hle => ?_)
                · rw [mbind_eq] at hF hS
                  obtain ⟨hx, hM1⟩ := hv
                  have hM2 := hM1.symm
                  subst hM2
                  generalize hq_w22 : F_Ck_typeIn cs w19.2 w15.1 = w22 at hF hS hx hle ⊢
                  cases hx
                  refine GW.eqs (st' := [.int w22]) rfl ?_
                  refine g_iload_n C d_Ck_lookLet_70 rfl ?_
                  obtain ⟨hs23, hS⟩ := hS
                  refine c_call (av := [.int w4.1]) (rest := [.int w22]) C hE (fun _ h => h) ⟨rfl, rfl⟩ hle (cc_Ck_effectsIn l hf D cs B dE lim _ w4.1 hs23) (fun _ h => h.elim) kd_Ck_effectsIn ki_Ck (by dsimp only; omega) (by dsimp only; omega) d_Ck_lookLet_71 (Nat.le_of_ble_eq_true rfl) (c_fS (n := 1) C km_Ck_65 ks_Ck_effectsIn ki_Ck kd_Ck_effectsIn ⟨by decide, by decide, by decide⟩ rfl rfl d_Ck_lookLet_71) (fun v1 M1 hv hle => ?_) (fun E1 M1 hv hle => ?_)
                  · rw [mbind_eq] at hF hS
                    obtain ⟨hx, hM1⟩ := hv
                    have hM2 := hM1.symm
                    subst hM2
                    generalize hq_w24 : F_Ck_effectsIn cs w19.2 w4.1 = w24 at hF hS hx hle ⊢
                    cases hx
                    refine GW.eqs (st' := [.int w24, .int w22]) rfl ?_
                    refine g_iload C d_Ck_lookLet_74 rfl ?_
                    obtain ⟨hs25, hS⟩ := hS
                    refine c_call (av := [.int w15.1]) (rest := [.int w24, .int w22]) C hE (fun _ h => h) ⟨rfl, rfl⟩ hle (cc_Ck_effectsIn l hf D cs B dE lim _ w15.1 hs25) (fun _ h => h.elim) kd_Ck_effectsIn ki_Ck (by dsimp only; omega) (by dsimp only; omega) d_Ck_lookLet_76 (Nat.le_of_ble_eq_true rfl) (c_fS (n := 1) C km_Ck_65 ks_Ck_effectsIn ki_Ck kd_Ck_effectsIn ⟨by decide, by decide, by decide⟩ rfl rfl d_Ck_lookLet_76) (fun v1 M1 hv hle => ?_) (fun E1 M1 hv hle => ?_)
                    · rw [mbind_eq] at hF hS
                      obtain ⟨hx, hM1⟩ := hv
                      have hM2 := hM1.symm
                      subst hM2
                      generalize hq_w26 : F_Ck_effectsIn cs w19.2 w15.1 = w26 at hF hS hx hle ⊢
                      cases hx
                      refine GW.eqs (st' := [.int w26, .int w24, .int w22]) rfl ?_
                      refine g_ior C d_Ck_lookLet_79 ?_
                      obtain ⟨hs27, hS⟩ := hS
                      refine c_call (av := [.int w22, .int (w24 ||| w26)]) (rest := []) C hE (fun _ h => h) ⟨rfl, rfl⟩ hle (cc_Ck_seenAs l hf D cs B dE lim _ w22 (w24 ||| w26) hs27) (fun _ h => h.elim) kd_Ck_seenAs ki_Ck (by dsimp only; omega) (by dsimp only; omega) d_Ck_lookLet_80 (Nat.le_of_ble_eq_true rfl) (c_fS (n := 2) C km_Ck_83 ks_Ck_seenAs ki_Ck kd_Ck_seenAs ⟨by decide, by decide, by decide⟩ rfl rfl d_Ck_lookLet_80) (fun v1 M1 hv hle => ?_) (fun E1 M1 hv hle => ?_)
                      · rw [mbind_eq] at hF hS
                        obtain ⟨hx, hM1⟩ := hv
                        have hM2 := hM1.symm
                        subst hM2
                        generalize hq_w28 : F_Ck_seenAs cs w19.2 w22 (w24 ||| w26) = w28 at hF hS hx hle ⊢
                        cases hx
                        refine GW.eqs (st' := [.int w28]) rfl ?_
                        exact c_iret (M := w19.2) C hr hlocks hle d_Ck_lookLet_83 (by rw [← hF]; exact ⟨rfl, rfl⟩)
                      · cases hv.1
                    · cases hv.1
                  · cases hv.1
                · cases hv.1
              · rw [if_pos hc20] at hF hS
                refine g_iconst (v := (-1)) C d_Ck_lookLet_63 (by decide) ?_
                exact c_iret (M := w19.2) C hr hlocks hle d_Ck_lookLet_64 (by rw [← hF]; exact ⟨rfl, rfl⟩)
            · cases hv.1
          · cases hv.1
        · cases hv.1
      · cases hv.1
    · rw [if_pos hc5] at hF hS
      refine g_iconst (v := (-1)) C d_Ck_lookLet_17 (by decide) ?_
      exact c_iret (M := w4.2) C hr hlocks hle d_Ck_lookLet_18 (by rw [← hF]; exact ⟨rfl, rfl⟩)
  · cases hv.1
def F_Ck_bodyKeepsTo (cs : Nat → ClassId) (M : gMem) (a0 : Nat) (x1 : Int32) (x2 : Int32) (x3 : Int32) : Int32 × gMem := mbind (F_Ck_typeIn cs M x3) (fun w3 => mbind (F_Ty_resultOf cs M ((cQ M a0 1).getD 0) x1) (fun w7 => mbind (F_Ty_suits cs M ((cQ M a0 1).getD 0) w3 w7) (fun w10 => if w10 = 0 then (mbind (F_Ck_blame cs M a0 6 x2) (fun w26 => (0, w26.2))) else (mbind (F_Ck_effectsIn cs M x3) (fun w13 => mbind (F_Ty_rowOf cs M ((cQ M a0 1).getD 0) x1) (fun w17 => mbind (F_N_isWithin cs M w13 w17) (fun w19 => if w19 = 0 then (mbind (F_Ck_blame cs M a0 7 x2) (fun w23 => (0, w23.2))) else ((1, M)))))))))
def S_Ck_bodyKeepsTo (cs : Nat → ClassId) (lim : Nat × Nat) (M : gMem) (a0 : Nat) (x1 : Int32) (x2 : Int32) (x3 : Int32) : Prop := (cOk 6 M a0) ∧ ((S_Ck_typeIn cs lim M x3) ∧ (mbind (F_Ck_typeIn cs M x3) (fun w3 => (cOk 6 M a0) ∧ ((cOq 1 M (cQ M a0 1)) ∧ ((S_Ty_resultOf cs lim M ((cQ M a0 1).getD 0) x1) ∧ (mbind (F_Ty_resultOf cs M ((cQ M a0 1).getD 0) x1) (fun w7 => (cOq 1 M (cQ M a0 1)) ∧ ((S_Ty_suits cs lim M ((cQ M a0 1).getD 0) w3 w7) ∧ (mbind (F_Ty_suits cs M ((cQ M a0 1).getD 0) w3 w7) (fun w10 => if w10 = 0 then ((cOk 6 M a0) ∧ ((S_Ck_blame cs lim M a0 6 x2) ∧ (mbind (F_Ck_blame cs M a0 6 x2) (fun w26 => True)))) else ((S_Ck_effectsIn cs lim M x3) ∧ (mbind (F_Ck_effectsIn cs M x3) (fun w13 => (cOk 6 M a0) ∧ ((cOq 1 M (cQ M a0 1)) ∧ ((S_Ty_rowOf cs lim M ((cQ M a0 1).getD 0) x1) ∧ (mbind (F_Ty_rowOf cs M ((cQ M a0 1).getD 0) x1) (fun w17 => (S_N_isWithin cs lim M w13 w17) ∧ (mbind (F_N_isWithin cs M w13 w17) (fun w19 => if w19 = 0 then ((cOk 6 M a0) ∧ ((S_Ck_blame cs lim M a0 7 x2) ∧ (mbind (F_Ck_blame cs M a0 7 x2) (fun w23 => True)))) else (True))))))))))))))))))))
set_option maxRecDepth 100000 in
set_option maxHeartbeats 4000000 in
theorem cc_Ck_bodyKeepsTo (l : Launch) (hf : l.flags = pinnedFlags ++ [noTraceFlag]) (D : va_G) (cs : Nat → ClassId) (B : Nat) (dE : Nat × Nat) (lim : Nat × Nat) (M : gMem) (a0 : Nat) (x1 : Int32) (x2 : Int32) (x3 : Int32) (hS : S_Ck_bodyKeepsTo cs lim M a0 x1 x2 x3) : cMet l y_Ck_bodyKeepsTo (Cond.code y_Ck_bodyKeepsTo c_Ck_bodyKeepsTo 4 (some .boolean)) (2) (43) D cs B dE (gA B) lim [.ref a0, .int x1, .int x2, .int x3] M (fun x M' => x = .inl (some (.int ((F_Ck_bodyKeepsTo cs M a0 x1 x2 x3).1))) ∧ M' = (F_Ck_bodyKeepsTo cs M a0 x1 x2 x3).2) := by
  refine cMet.ofW (by decide) (Nat.le_of_ble_eq_true rfl) (lv0 := [(0, .ref a0), (1, .int x1), (2, .int x2), (3, .int x3)]) rfl ?_
  intro p e s m args below meth c C hE hR0 hle hr hlocks hex hn
  generalize hF : F_Ck_bodyKeepsTo cs M a0 x1 x2 x3 = Fv
  unfold F_Ck_bodyKeepsTo at hF
  unfold S_Ck_bodyKeepsTo at hS
  refine g_aload_n C d_Ck_bodyKeepsTo_0 rfl ?_
  obtain ⟨ho1, hS⟩ := hS
  refine c_getq C hE.1 (ci := 6) i_Ck rfl 1 (by decide) (by decide) (by decide) kf_Ck_19 d_Ck_bodyKeepsTo_1 ho1 ?_
  refine g_iload_n C d_Ck_bodyKeepsTo_4 rfl ?_
  obtain ⟨hs2, hS⟩ := hS
  refine c_call (av := [.int x3]) (rest := [va_rf (cQ M a0 1)]) C hE (fun _ h => h.elim) ⟨rfl, rfl⟩ hle (cc_Ck_typeIn l hf D cs B dE lim _ x3 hs2) (fun _ h => h.elim) kd_Ck_typeIn ki_Ck (Nat.le_of_ble_eq_true rfl) (Nat.le_of_ble_eq_true rfl) d_Ck_bodyKeepsTo_5 (by simp only [List.map_cons, List.map_nil, rf_cat, List.sum_cons, List.sum_nil]; exact Nat.le_of_ble_eq_true rfl) (c_fS (n := 1) C km_Ck_69 ks_Ck_typeIn ki_Ck kd_Ck_typeIn ⟨by decide, by decide, by decide⟩ rfl rfl d_Ck_bodyKeepsTo_5) (fun v1 M1 hv hle => ?_) (fun E1 M1 hv hle => ?_)
  · rw [mbind_eq] at hF hS
    obtain ⟨hx, hM1⟩ := hv
    have hM2 := hM1.symm
    subst hM2
    generalize hq_w3 : F_Ck_typeIn cs M x3 = w3 at hF hS hx hle ⊢
    cases hx
    refine GW.eqs (st' := [.int w3, va_rf (cQ M a0 1)]) rfl ?_
    refine g_aload_n C d_Ck_bodyKeepsTo_8 rfl ?_
    obtain ⟨ho4, hS⟩ := hS
    refine c_getq C hE.1 (ci := 6) i_Ck rfl 1 (by decide) (by decide) (by decide) kf_Ck_19 d_Ck_bodyKeepsTo_9 ho4 ?_
    refine g_iload_n C d_Ck_bodyKeepsTo_12 rfl ?_
    obtain ⟨ho5, hS⟩ := hS
    refine GW.known2 (a := (cQ M a0 1).getD 0) (cOq.at ho5).1 ?_
    obtain ⟨hs6, hS⟩ := hS
    refine c_call (av := [.ref ((cQ M a0 1).getD 0), .int x1]) (rest := [.int w3, va_rf (cQ M a0 1)]) C hE (fun _ h => h.elim) ⟨rfl, rfl⟩ hle (cc_Ty_resultOf l hf D cs B dE lim _ ((cQ M a0 1).getD 0) x1 hs6) (fun _ h => h.elim) kd_Ty_resultOf ki_Ty (Nat.le_of_ble_eq_true rfl) (Nat.le_of_ble_eq_true rfl) d_Ck_bodyKeepsTo_13 (by simp only [List.map_cons, List.map_nil, rf_cat, List.sum_cons, List.sum_nil]; exact Nat.le_of_ble_eq_true rfl) (c_fV (n := 1) (ci := 1) C hE.1 rfl km_Ck_139 kv_Ty_resultOf kl_Ty_resultOf kd_Ty_resultOf ⟨by decide, by decide, by decide⟩ rfl rfl d_Ck_bodyKeepsTo_13 (cOq.at ho5).2) (fun v1 M1 hv hle => ?_) (fun E1 M1 hv hle => ?_)
    · rw [mbind_eq] at hF hS
      obtain ⟨hx, hM1⟩ := hv
      have hM2 := hM1.symm
      subst hM2
      generalize hq_w7 : F_Ty_resultOf cs M ((cQ M a0 1).getD 0) x1 = w7 at hF hS hx hle ⊢
      cases hx
      refine GW.eqs (st' := [.int w7, .int w3, va_rf (cQ M a0 1)]) rfl ?_
      obtain ⟨ho8, hS⟩ := hS
      refine GW.known3 (a := (cQ M a0 1).getD 0) (cOq.at ho8).1 ?_
      obtain ⟨hs9, hS⟩ := hS
      refine c_call (av := [.ref ((cQ M a0 1).getD 0), .int w3, .int w7]) (rest := []) C hE (fun _ h => h.elim) ⟨rfl, rfl⟩ hle (cc_Ty_suits l hf D cs B dE lim _ ((cQ M a0 1).getD 0) w3 w7 hs9) (fun _ h => h.elim) kd_Ty_suits ki_Ty (Nat.le_of_ble_eq_true rfl) (Nat.le_of_ble_eq_true rfl) d_Ck_bodyKeepsTo_16 (Nat.le_of_ble_eq_true rfl) (c_fV (n := 2) (ci := 1) C hE.1 rfl km_Ck_142 kv_Ty_suits kl_Ty_suits kd_Ty_suits ⟨by decide, by decide, by decide⟩ rfl rfl d_Ck_bodyKeepsTo_16 (cOq.at ho8).2) (fun v1 M1 hv hle => ?_) (fun E1 M1 hv hle => ?_)
      · rw [mbind_eq] at hF hS
        obtain ⟨hx, hM1⟩ := hv
        have hM2 := hM1.symm
        subst hM2
        generalize hq_w10 : F_Ty_suits cs M ((cQ M a0 1).getD 0) w3 w7 = w10 at hF hS hx hle ⊢
        cases hx
        refine GW.eqs (st' := [.int w10]) rfl ?_
        refine g_if_ne C 32 d_Ck_bodyKeepsTo_19 (by decide) (fun hc11 => ?_) (fun hc11 => ?_)
        · rw [if_neg hc11] at hF hS
          refine g_iload_n C d_Ck_bodyKeepsTo_32 rfl ?_
          obtain ⟨hs12, hS⟩ := hS
          refine c_call (av := [.int x3]) (rest := []) C hE (fun _ h => h.elim) ⟨rfl, rfl⟩ hle (cc_Ck_effectsIn l hf D cs B dE lim _ x3 hs12) (fun _ h => h.elim) kd_Ck_effectsIn ki_Ck (Nat.le_of_ble_eq_true rfl) (Nat.le_of_ble_eq_true rfl) d_Ck_bodyKeepsTo_33 (Nat.le_of_ble_eq_true rfl) (c_fS (n := 1) C km_Ck_65 ks_Ck_effectsIn ki_Ck kd_Ck_effectsIn ⟨by decide, by decide, by decide⟩ rfl rfl d_Ck_bodyKeepsTo_33) (fun v1 M1 hv hle => ?_) (fun E1 M1 hv hle => ?_)
          · rw [mbind_eq] at hF hS
            obtain ⟨hx, hM1⟩ := hv
            have hM2 := hM1.symm
            subst hM2
            generalize hq_w13 : F_Ck_effectsIn cs M x3 = w13 at hF hS hx hle ⊢
            cases hx
            refine GW.eqs (st' := [.int w13]) rfl ?_
            refine g_aload_n C d_Ck_bodyKeepsTo_36 rfl ?_
            obtain ⟨ho14, hS⟩ := hS
            refine c_getq C hE.1 (ci := 6) i_Ck rfl 1 (by decide) (by decide) (by decide) kf_Ck_19 d_Ck_bodyKeepsTo_37 ho14 ?_
            refine g_iload_n C d_Ck_bodyKeepsTo_40 rfl ?_
            obtain ⟨ho15, hS⟩ := hS
            refine GW.known2 (a := (cQ M a0 1).getD 0) (cOq.at ho15).1 ?_
            obtain ⟨hs16, hS⟩ := hS
            refine c_call (av := [.ref ((cQ M a0 1).getD 0), .int x1]) (rest := [.int w13]) C hE (fun _ h => h.elim) ⟨rfl, rfl⟩ hle (cc_Ty_rowOf l hf D cs B dE lim _ ((cQ M a0 1).getD 0) x1 hs16) (fun _ h => h.elim) kd_Ty_rowOf ki_Ty (Nat.le_of_ble_eq_true rfl) (Nat.le_of_ble_eq_true rfl) d_Ck_bodyKeepsTo_41 (Nat.le_of_ble_eq_true rfl) (c_fV (n := 1) (ci := 1) C hE.1 rfl km_Ck_146 kv_Ty_rowOf kl_Ty_rowOf kd_Ty_rowOf ⟨by decide, by decide, by decide⟩ rfl rfl d_Ck_bodyKeepsTo_41 (cOq.at ho15).2) (fun v1 M1 hv hle => ?_) (fun E1 M1 hv hle => ?_)
            · rw [mbind_eq] at hF hS
              obtain ⟨hx, hM1⟩ := hv
              have hM2 := hM1.symm
              subst hM2
              generalize hq_w17 : F_Ty_rowOf cs M ((cQ M a0 1).getD 0) x1 = w17 at hF hS hx hle ⊢
              cases hx
              refine GW.eqs (st' := [.int w17, .int w13]) rfl ?_
              obtain ⟨hs18, hS⟩ := hS
              refine c_call (av := [.int w13, .int w17]) (rest := []) C hE (fun _ h => h.elim) ⟨rfl, rfl⟩ hle (cc_N_isWithin l hf D cs B dE lim _ w13 w17 hs18) (fun _ h => h.elim) kd_N_isWithin ki_N (Nat.le_of_ble_eq_true rfl) (Nat.le_of_ble_eq_true rfl) d_Ck_bodyKeepsTo_44 (Nat.le_of_ble_eq_true rfl) (c_fSN (n := 2) C (gE_mN hE km_Ck_149) ks_N_isWithin ki_N kd_N_isWithin ⟨by decide, by decide, by decide⟩ rfl rfl d_Ck_bodyKeepsTo_44) (fun v1 M1 hv hle => ?_) (fun E1 M1 hv hle => ?_)
              · rw [mbind_eq] at hF hS
                obtain ⟨hx, hM1⟩ := hv
                have hM2 := hM1.symm
                subst hM2
                generalize hq_w19 : F_N_isWithin cs M w13 w17 = w19 at hF hS hx hle ⊢
                cases hx
                refine GW.eqs (st' := [.int w19]) rfl ?_
                refine g_if_ne C 60 d_Ck_bodyKeepsTo_47 (by decide) (fun hc20 => ?_) (fun hc20 => ?_)
                · rw [if_neg hc20] at hF hS
                  refine g_iconst (v := 1) C d_Ck_bodyKeepsTo_60 (by decide) ?_
                  refine GW.more (A' := gA B) (fun _ h => h.elim) ?_
                  exact c_zret (M := M) C hr hlocks hle (by decide) d_Ck_bodyKeepsTo_61 (by rw [← hF]; exact ⟨rfl, rfl⟩)
                · rw [if_pos hc20] at hF hS
                  refine g_aload_n C d_Ck_bodyKeepsTo_50 rfl ?_
                  refine g_bipush (v := 7) C d_Ck_bodyKeepsTo_51 (by decide) ?_
                  refine g_iload_n C d_Ck_bodyKeepsTo_53 rfl ?_
                  refine GW.more (A' := gA B) (fun _ h => h.elim) ?_
                  obtain ⟨ho21, hS⟩ := hS
                  obtain ⟨hs22, hS⟩ := hS
                  refine c_call (av := [.ref a0, .int 7, .int x2]) (rest := []) C hE (fun _ h => h) ⟨rfl, rfl⟩ hle (cc_Ck_blame l hf D cs B dE lim _ a0 7 x2 hs22) (fun _ h => h) kd_Ck_blame ki_Ck (Nat.le_of_ble_eq_true rfl) (Nat.le_of_ble_eq_true rfl) d_Ck_bodyKeepsTo_54 (Nat.le_of_ble_eq_true rfl) (c_fV (n := 2) (ci := 6) C hE.1 rfl km_Ck_58 kv_Ck_blame kl_Ck_blame kd_Ck_blame ⟨by decide, by decide, by decide⟩ rfl rfl d_Ck_bodyKeepsTo_54 ho21) (fun v1 M1 hv hle => ?_) (fun E1 M1 hv hle => ?_)
                  · rw [mbind_eq] at hF hS
                    obtain ⟨hx, hM1⟩ := hv
                    have hM2 := hM1.symm
                    subst hM2
                    generalize hq_w23 : F_Ck_blame cs M a0 7 x2 = w23 at hF hS hx hle ⊢
                    cases hx
                    refine GW.eqs (st' := [.int w23.1]) rfl ?_
                    refine g_pop C d_Ck_bodyKeepsTo_57 rfl ?_
                    refine g_iconst (v := 0) C d_Ck_bodyKeepsTo_58 (by decide) ?_
                    exact c_zret (M := w23.2) C hr hlocks hle (by decide) d_Ck_bodyKeepsTo_59 (by rw [← hF]; exact ⟨rfl, rfl⟩)
                  · cases hv.1
              · cases hv.1
            · cases hv.1
          · cases hv.1
        · rw [if_pos hc11] at hF hS
          refine g_aload_n C d_Ck_bodyKeepsTo_22 rfl ?_
          refine g_bipush (v := 6) C d_Ck_bodyKeepsTo_23 (by decide) ?_
          refine g_iload_n C d_Ck_bodyKeepsTo_25 rfl ?_
          refine GW.more (A' := gA B) (fun _ h => h.elim) ?_
          obtain ⟨ho24, hS⟩ := hS
          obtain ⟨hs25, hS⟩ := hS
          refine c_call (av := [.ref a0, .int 6, .int x2]) (rest := []) C hE (fun _ h => h) ⟨rfl, rfl⟩ hle (cc_Ck_blame l hf D cs B dE lim _ a0 6 x2 hs25) (fun _ h => h) kd_Ck_blame ki_Ck (Nat.le_of_ble_eq_true rfl) (Nat.le_of_ble_eq_true rfl) d_Ck_bodyKeepsTo_26 (Nat.le_of_ble_eq_true rfl) (c_fV (n := 2) (ci := 6) C hE.1 rfl km_Ck_58 kv_Ck_blame kl_Ck_blame kd_Ck_blame ⟨by decide, by decide, by decide⟩ rfl rfl d_Ck_bodyKeepsTo_26 ho24) (fun v1 M1 hv hle => ?_) (fun E1 M1 hv hle => ?_)
          · rw [mbind_eq] at hF hS
            obtain ⟨hx, hM1⟩ := hv
            have hM2 := hM1.symm
            subst hM2
            generalize hq_w26 : F_Ck_blame cs M a0 6 x2 = w26 at hF hS hx hle ⊢
            cases hx
            refine GW.eqs (st' := [.int w26.1]) rfl ?_
            refine g_pop C d_Ck_bodyKeepsTo_29 rfl ?_
            refine g_iconst (v := 0) C d_Ck_bodyKeepsTo_30 (by decide) ?_
            exact c_zret (M := w26.2) C hr hlocks hle (by decide) d_Ck_bodyKeepsTo_31 (by rw [← hF]; exact ⟨rfl, rfl⟩)
          · cases hv.1
      · cases hv.1
    · cases hv.1
  · cases hv.1
def F_Ck_lookRec (cs : Nat → ClassId) (n : Nat) (Lf : gMem → Nat → Int32 → Int32 → Int32 × gMem) (M : gMem) (a0 : Nat) (x1 : Option Nat) (x2 : Int32) : Int32 × gMem := mbind (F_Ck_rename cs M a0 (cI M (x1.getD 0) 3) (cI M (x1.getD 0) 1)) (fun w5 => mbind (F_Ty_argumentOf cs w5.2 ((cQ w5.2 a0 1).getD 0) (cI M (x1.getD 0) 1)) (fun w10 => mbind (F_Ck_rename cs w5.2 a0 (cI w5.2 (x1.getD 0) 2) w10) (fun w13 => mbind (Lf w13.2 a0 (cI w13.2 (x1.getD 0) 4) (x2 + 1)) (fun w17 => mbind (F_Ck_rename cs w17.2 a0 (cI w17.2 (x1.getD 0) 2) w13.1) (fun w21 => if w17.1 = (-1) then (mbind (F_Ck_rename cs w21.2 a0 (cI w21.2 (x1.getD 0) 3) w5.1) (fun w26 => ((-1), w26.2))) else (mbind (F_Ck_bodyKeepsTo cs w21.2 a0 (cI M (x1.getD 0) 1) (cI w21.2 (x1.getD 0) 4) w17.1) (fun w30 => if w30.1 = 0 then (mbind (F_Ck_rename cs w30.2 a0 (cI w30.2 (x1.getD 0) 3) w5.1) (fun w35 => ((-1), w35.2))) else (mbind (Lf w30.2 a0 (cI w30.2 (x1.getD 0) 5) (x2 + 1)) (fun w39 => mbind (F_Ck_rename cs w39.2 a0 (cI w39.2 (x1.getD 0) 3) w5.1) (fun w43 => (w39.1, w43.2)))))))))))
def S_Ck_lookRec (cs : Nat → ClassId) (lim : Nat × Nat) (n : Nat) (Lf : gMem → Nat → Int32 → Int32 → Int32 × gMem) (Ls : gMem → Nat → Int32 → Int32 → Prop) (M : gMem) (a0 : Nat) (x1 : Option Nat) (x2 : Int32) : Prop := (cOq 4 M x1) ∧ ((cOq 4 M x1) ∧ ((cOk 6 M a0) ∧ ((S_Ck_rename cs lim M a0 (cI M (x1.getD 0) 3) (cI M (x1.getD 0) 1)) ∧ (mbind (F_Ck_rename cs M a0 (cI M (x1.getD 0) 3) (cI M (x1.getD 0) 1)) (fun w5 => (cOq 4 w5.2 x1) ∧ ((cOk 6 w5.2 a0) ∧ ((cOq 1 w5.2 (cQ w5.2 a0 1)) ∧ ((S_Ty_argumentOf cs lim w5.2 ((cQ w5.2 a0 1).getD 0) (cI M (x1.getD 0) 1)) ∧ (mbind (F_Ty_argumentOf cs w5.2 ((cQ w5.2 a0 1).getD 0) (cI M (x1.getD 0) 1)) (fun w10 => (cOk 6 w5.2 a0) ∧ ((S_Ck_rename cs lim w5.2 a0 (cI w5.2 (x1.getD 0) 2) w10) ∧ (mbind (F_Ck_rename cs w5.2 a0 (cI w5.2 (x1.getD 0) 2) w10) (fun w13 => (cOq 4 w13.2 x1) ∧ ((cOk 6 w13.2 a0) ∧ ((Ls w13.2 a0 (cI w13.2 (x1.getD 0) 4) (x2 + 1)) ∧ (mbind (Lf w13.2 a0 (cI w13.2 (x1.getD 0) 4) (x2 + 1)) (fun w17 => (cOq 4 w17.2 x1) ∧ ((cOk 6 w17.2 a0) ∧ ((S_Ck_rename cs lim w17.2 a0 (cI w17.2 (x1.getD 0) 2) w13.1) ∧ (mbind (F_Ck_rename cs w17.2 a0 (cI w17.2 (x1.getD 0) 2) w13.1) (fun w21 => if w17.1 = (-1) then ((cOq 4 w21.2 x1) ∧ ((cOk 6 w21.2 a0) ∧ ((S_Ck_rename cs lim w21.2 a0 (cI w21.2 (x1.getD 0) 3) w5.1) ∧ (mbind (F_Ck_rename cs w21.2 a0 (cI w21.2 (x1.getD 0) 3) w5.1) (fun w26 => True))))) else ((cOq 4 w21.2 x1) ∧ ((cOk 6 w21.2 a0) ∧ ((S_Ck_bodyKeepsTo cs lim w21.2 a0 (cI M (x1.getD 0) 1) (cI w21.2 (x1.getD 0) 4) w17.1) ∧ (mbind (F_Ck_bodyKeepsTo cs w21.2 a0 (cI M (x1.getD 0) 1) (cI w21.2 (x1.getD 0) 4) w17.1) (fun w30 => if w30.1 = 0 then ((cOq 4 w30.2 x1) ∧ ((cOk 6 w30.2 a0) ∧ ((S_Ck_rename cs lim w30.2 a0 (cI w30.2 (x1.getD 0) 3) w5.1) ∧ (mbind (F_Ck_rename cs w30.2 a0 (cI w30.2 (x1.getD 0) 3) w5.1) (fun w35 => True))))) else ((cOq 4 w30.2 x1) ∧ ((cOk 6 w30.2 a0) ∧ ((Ls w30.2 a0 (cI w30.2 (x1.getD 0) 5) (x2 + 1)) ∧ (mbind (Lf w30.2 a0 (cI w30.2 (x1.getD 0) 5) (x2 + 1)) (fun w39 => (cOq 4 w39.2 x1) ∧ ((cOk 6 w39.2 a0) ∧ ((S_Ck_rename cs lim w39.2 a0 (cI w39.2 (x1.getD 0) 3) w5.1) ∧ (mbind (F_Ck_rename cs w39.2 a0 (cI w39.2 (x1.getD 0) 3) w5.1) (fun w43 => True)))))))))))))))))))))))))))))))))))
set_option maxRecDepth 100000 in
set_option maxHeartbeats 4000000 in
theorem cc_Ck_lookRec (l : Launch) (hf : l.flags = pinnedFlags ++ [noTraceFlag]) (D : va_G) (cs : Nat → ClassId) (B : Nat) (dE : Nat × Nat) (lim : Nat × Nat) (n : Nat) (Lf : gMem → Nat → Int32 → Int32 → Int32 × gMem) (Ls : gMem → Nat → Int32 → Int32 → Prop) (frL loL : Nat) (hL : ∀ (M : gMem) (a0 : Nat) (x1 x2 : Int32), Ls M a0 x1 x2 → cMet l y_Ck_look (Cond.code y_Ck_look c_Ck_look 4 (some .int)) frL loL D cs B dE (gA B) lim [.ref a0, .int x1, .int x2] M (fun x M' => x = .inl (some (.int ((Lf M a0 x1 x2).1))) ∧ M' = (Lf M a0 x1 x2).2)) (M : gMem) (a0 : Nat) (x1 : Option Nat) (x2 : Int32) (hS : S_Ck_lookRec cs lim n Lf Ls M a0 x1 x2) : cMet l y_Ck_lookRec (Cond.code y_Ck_lookRec c_Ck_lookRec 8 (some .int)) (frL + 8) (loL + 280) D cs B dE (gA B) lim [.ref a0, va_rf x1, .int x2] M (fun x M' => x = .inl (some (.int ((F_Ck_lookRec cs n Lf M a0 x1 x2).1))) ∧ M' = (F_Ck_lookRec cs n Lf M a0 x1 x2).2) := by
  refine cMet.ofW (by decide) (by cases x1 <;> exact Nat.le_of_ble_eq_true rfl) (lv0 := [(0, .ref a0), (1, va_rf x1), (2, .int x2)]) (by cases x1 <;> rfl) ?_
  intro p e s m args below meth c C hE hR0 hle hr hlocks hex hn
  generalize hF : F_Ck_lookRec cs n Lf M a0 x1 x2 = Fv
  unfold F_Ck_lookRec at hF
  unfold S_Ck_lookRec at hS
  refine q_aload_n (r := x1) C d_Ck_lookRec_0 rfl ?_
  obtain ⟨ho1, hS⟩ := hS
  refine GW.known1 (a := x1.getD 0) (cOq.at ho1).1 ?_
  refine c_geti C hE.1 (ci := 4) i_No rfl 1 (by decide) (by decide) (by decide) kf_Ck_114 d_Ck_lookRec_1 (cOq.at ho1).2 ?_
  refine g_istore_n (lv' := [(3, .int (cI M (x1.getD 0) 1)), (0, .ref a0), (1, va_rf x1), (2, .int x2)]) C d_Ck_lookRec_4 (by decide) rfl ?_
  refine g_aload_n C d_Ck_lookRec_5 rfl ?_
  refine q_aload_n (r := x1) C d_Ck_lookRec_6 rfl ?_
  obtain ⟨ho2, hS⟩ := hS
  refine GW.known1 (a := x1.getD 0) (cOq.at ho2).1 ?_
  refine c_geti C hE.1 (ci := 4) i_No rfl 3 (by decide) (by decide) (by decide) kf_Ck_129 d_Ck_lookRec_7 (cOq.at ho2).2 ?_
  refine g_iload_n C d_Ck_lookRec_10 rfl ?_
  refine GW.more (A' := gA B) (fun _ h => h.elim) ?_
  obtain ⟨ho3, hS⟩ := hS
  obtain ⟨hs4, hS⟩ := hS
  refine c_call (av := [.ref a0, .int (cI M (x1.getD 0) 3), .int (cI M (x1.getD 0) 1)]) (rest := []) C hE (fun _ h => h) ⟨rfl, rfl⟩ hle (cc_Ck_rename l hf D cs B dE lim _ a0 (cI M (x1.getD 0) 3) (cI M (x1.getD 0) 1) hs4) (fun _ h => h) kd_Ck_rename ki_Ck (by dsimp only; omega) (by dsimp only; omega) d_Ck_lookRec_11 (Nat.le_of_ble_eq_true rfl) (c_fV (n := 2) (ci := 6) C hE.1 rfl km_Ck_123 kv_Ck_rename kl_Ck_rename kd_Ck_rename ⟨by decide, by decide, by decide⟩ rfl rfl d_Ck_lookRec_11 ho3) (fun v1 M1 hv hle => ?_) (fun E1 M1 hv hle => ?_)
  · rw [mbind_eq] at hF hS
    obtain ⟨hx, hM1⟩ := hv
    have hM2 := hM1.symm
    subst hM2
    generalize hq_w5 : F_Ck_rename cs M a0 (cI M (x1.getD 0) 3) (cI M (x1.getD 0) 1) = w5 at hF hS hx hle ⊢
    cases hx
    refine GW.eqs (st' := [.int w5.1]) rfl ?_
    refine g_istore (lv' := [(4, .int w5.1), (3, .int (cI M (x1.getD 0) 1)), (0, .ref a0), (1, va_rf x1), (2, .int x2)]) C d_Ck_lookRec_14 (by decide) rfl ?_
    refine g_aload_n C d_Ck_lookRec_16 rfl ?_
    refine q_aload_n (r := x1) C d_Ck_lookRec_17 rfl ?_
    obtain ⟨ho6, hS⟩ := hS
    refine GW.known1 (a := x1.getD 0) (cOq.at ho6).1 ?_
    refine c_geti C hE.1 (ci := 4) i_No rfl 2 (by decide) (by decide) (by decide) kf_Ck_120 d_Ck_lookRec_18 (cOq.at ho6).2 ?_
    refine g_aload_n C d_Ck_lookRec_21 rfl ?_
    obtain ⟨ho7, hS⟩ := hS
    refine c_getq C hE.1 (ci := 6) i_Ck rfl 1 (by decide) (by decide) (by decide) kf_Ck_19 d_Ck_lookRec_22 ho7 ?_
    refine g_iload_n C d_Ck_lookRec_25 rfl ?_
    obtain ⟨ho8, hS⟩ := hS
    refine GW.known2 (a := (cQ w5.2 a0 1).getD 0) (cOq.at ho8).1 ?_
    obtain ⟨hs9, hS⟩ := hS
    refine c_call (av := [.ref ((cQ w5.2 a0 1).getD 0), .int (cI M (x1.getD 0) 1)]) (rest := [.int (cI w5.2 (x1.getD 0) 2), .ref a0]) C hE (fun _ h => h) ⟨rfl, rfl⟩ hle (cc_Ty_argumentOf l hf D cs B dE lim _ ((cQ w5.2 a0 1).getD 0) (cI M (x1.getD 0) 1) hs9) (fun _ h => h.elim) kd_Ty_argumentOf ki_Ty (by dsimp only; omega) (by dsimp only; omega) d_Ck_lookRec_26 (Nat.le_of_ble_eq_true rfl) (c_fV (n := 1) (ci := 1) C hE.1 rfl km_Ck_132 kv_Ty_argumentOf kl_Ty_argumentOf kd_Ty_argumentOf ⟨by decide, by decide, by decide⟩ rfl rfl d_Ck_lookRec_26 (cOq.at ho8).2) (fun v1 M1 hv hle => ?_) (fun E1 M1 hv hle => ?_)
    · rw [mbind_eq] at hF hS
      obtain ⟨hx, hM1⟩ := hv
      have hM2 := hM1.symm
      subst hM2
      generalize hq_w10 : F_Ty_argumentOf cs w5.2 ((cQ w5.2 a0 1).getD 0) (cI M (x1.getD 0) 1) = w10 at hF hS hx hle ⊢
      cases hx
      refine GW.eqs (st' := [.int w10, .int (cI w5.2 (x1.getD 0) 2), .ref a0]) rfl ?_
      obtain ⟨ho11, hS⟩ := hS
      obtain ⟨hs12, hS⟩ := hS
      refine c_call (av := [.ref a0, .int (cI w5.2 (x1.getD 0) 2), .int w10]) (rest := []) C hE (fun _ h => h) ⟨rfl, rfl⟩ hle (cc_Ck_rename l hf D cs B dE lim _ a0 (cI w5.2 (x1.getD 0) 2) w10 hs12) (fun _ h => h) kd_Ck_rename ki_Ck (by dsimp only; omega) (by dsimp only; omega) d_Ck_lookRec_29 (Nat.le_of_ble_eq_true rfl) (c_fV (n := 2) (ci := 6) C hE.1 rfl km_Ck_123 kv_Ck_rename kl_Ck_rename kd_Ck_rename ⟨by decide, by decide, by decide⟩ rfl rfl d_Ck_lookRec_29 ho11) (fun v1 M1 hv hle => ?_) (fun E1 M1 hv hle => ?_)
      · rw [mbind_eq] at hF hS
        obtain ⟨hx, hM1⟩ := hv
        have hM2 := hM1.symm
        subst hM2
        generalize hq_w13 : F_Ck_rename cs w5.2 a0 (cI w5.2 (x1.getD 0) 2) w10 = w13 at hF hS hx hle ⊢
        cases hx
        refine GW.eqs (st' := [.int w13.1]) rfl ?_
        refine g_istore (lv' := [(5, .int w13.1), (4, .int w5.1), (3, .int (cI M (x1.getD 0) 1)), (0, .ref a0), (1, va_rf x1), (2, .int x2)]) C d_Ck_lookRec_32 (by decide) rfl ?_
        refine g_aload_n C d_Ck_lookRec_34 rfl ?_
        refine q_aload_n (r := x1) C d_Ck_lookRec_35 rfl ?_
        obtain ⟨ho14, hS⟩ := hS
        refine GW.known1 (a := x1.getD 0) (cOq.at ho14).1 ?_
        refine c_geti C hE.1 (ci := 4) i_No rfl 4 (by decide) (by decide) (by decide) kf_Ck_117 d_Ck_lookRec_36 (cOq.at ho14).2 ?_
        refine g_iload_n C d_Ck_lookRec_39 rfl ?_
        refine g_iconst (v := 1) C d_Ck_lookRec_40 (by decide) ?_
        refine g_iadd C d_Ck_lookRec_41 ?_
        obtain ⟨ho15, hS⟩ := hS
        obtain ⟨hs16, hS⟩ := hS
        refine c_call (av := [.ref a0, .int (cI w13.2 (x1.getD 0) 4), .int (x2 + 1)]) (rest := []) C hE (fun _ h => h) ⟨rfl, rfl⟩ hle (hL _ a0 (cI w13.2 (x1.getD 0) 4) (x2 + 1) hs16) (fun _ h => h) kd_Ck_look ki_Ck (by dsimp only; omega) (by dsimp only; omega) d_Ck_lookRec_42 (Nat.le_of_ble_eq_true rfl) (c_fV (n := 2) (ci := 6) C hE.1 rfl km_Ck_54 kv_Ck_look kl_Ck_look kd_Ck_look ⟨by decide, by decide, by decide⟩ rfl rfl d_Ck_lookRec_42 ho15) (fun v1 M1 hv hle => ?_) (fun E1 M1 hv hle => ?_)
        · rw [mbind_eq] at hF hS
          obtain ⟨hx, hM1⟩ := hv
          have hM2 := hM1.symm
          subst hM2
          generalize hq_w17 : Lf w13.2 a0 (cI w13.2 (x1.getD 0) 4) (x2 + 1) = w17 at hF hS hx hle ⊢
          cases hx
          refine GW.eqs (st' := [.int w17.1]) rfl ?_
          refine g_istore (lv' := [(6, .int w17.1), (5, .int w13.1), (4, .int w5.1), (3, .int (cI M (x1.getD 0) 1)), (0, .ref a0), (1, va_rf x1), (2, .int x2)]) C d_Ck_lookRec_45 (by decide) rfl ?_
          refine g_aload_n C d_Ck_lookRec_47 rfl ?_
          refine q_aload_n (r := x1) C d_Ck_lookRec_48 rfl ?_
          obtain ⟨ho18, hS⟩ := hS
          refine GW.known1 (a := x1.getD 0) (cOq.at ho18).1 ?_
          refine c_geti C hE.1 (ci := 4) i_No rfl 2 (by decide) (by decide) (by decide) kf_Ck_120 d_Ck_lookRec_49 (cOq.at ho18).2 ?_
          refine g_iload C d_Ck_lookRec_52 rfl ?_
          obtain ⟨ho19, hS⟩ := hS
          obtain ⟨hs20, hS⟩ := hS
          refine c_call (av := [.ref a0, .int (cI w17.2 (x1.getD 0) 2), .int w13.1]) (rest := []) C hE (fun _ h => h) ⟨rfl, rfl⟩ hle (cc_Ck_rename l hf D cs B dE lim _ a0 (cI w17.2 (x1.getD 0) 2) w13.1 hs20) (fun _ h => h) kd_Ck_rename ki_Ck (by dsimp only; omega) (by dsimp only; omega) d_Ck_lookRec_54 (Nat.le_of_ble_eq_true rfl) (c_fV (n := 2) (ci := 6) C hE.1 rfl km_Ck_123 kv_Ck_rename kl_Ck_rename kd_Ck_rename ⟨by decide, by decide, by decide⟩ rfl rfl d_Ck_lookRec_54 ho19) (fun v1 M1 hv hle => ?_) (fun E1 M1 hv hle => ?_)
          · rw [mbind_eq] at hF hS
            obtain ⟨hx, hM1⟩ := hv
            have hM2 := hM1.symm
            subst hM2
            generalize hq_w21 : F_Ck_rename cs w17.2 a0 (cI w17.2 (x1.getD 0) 2) w13.1 = w21 at hF hS hx hle ⊢
            cases hx
            refine GW.eqs (st' := [.int w21.1]) rfl ?_
            refine g_pop C d_Ck_lookRec_57 rfl ?_
            refine g_iconst (v := (-1)) C d_Ck_lookRec_58 (by decide) ?_
            refine g_istore (lv' := [(7, .int (-1)), (6, .int w17.1), (5, .int w13.1), (4, .int w5.1), (3, .int (cI M (x1.getD 0) 1)), (0, .ref a0), (1, va_rf x1), (2, .int x2)]) C d_Ck_lookRec_59 (by decide) rfl ?_
            refine g_iload C d_Ck_lookRec_61 rfl ?_
            refine g_iconst (v := (-1)) C d_Ck_lookRec_63 (by decide) ?_
            refine g_icmp_eq C 94 d_Ck_lookRec_64 (by decide) (fun hc22 => ?_) (fun hc22 => ?_)
            · rw [if_pos hc22] at hF hS
              refine g_aload_n C d_Ck_lookRec_94 rfl ?_
              refine q_aload_n (r := x1) C d_Ck_lookRec_95 rfl ?_
              obtain ⟨ho23, hS⟩ := hS
              refine GW.known1 (a := x1.getD 0) (cOq.at ho23).1 ?_
              refine c_geti C hE.1 (ci := 4) i_No rfl 3 (by decide) (by decide) (by decide) kf_Ck_129 d_Ck_lookRec_96 (cOq.at ho23).2 ?_
              refine g_iload C d_Ck_lookRec_99 rfl ?_
              obtain ⟨ho24, hS⟩ := hS
              obtain ⟨hs25, hS⟩ := hS
              refine c_call (av := [.ref a0, .int (cI w21.2 (x1.getD 0) 3), .int w5.1]) (rest := []) C hE (fun _ h => h) ⟨rfl, rfl⟩ hle (cc_Ck_rename l hf D cs B dE lim _ a0 (cI w21.2 (x1.getD 0) 3) w5.1 hs25) (fun _ h => h) kd_Ck_rename ki_Ck (by dsimp only; omega) (by dsimp only; omega) d_Ck_lookRec_101 (Nat.le_of_ble_eq_true rfl) (c_fV (n := 2) (ci := 6) C hE.1 rfl km_Ck_123 kv_Ck_rename kl_Ck_rename kd_Ck_rename ⟨by decide, by decide, by decide⟩ rfl rfl d_Ck_lookRec_101 ho24) (fun v1 M1 hv hle => ?_) (fun E1 M1 hv hle => ?_)
              · rw [mbind_eq] at hF hS
                obtain ⟨hx, hM1⟩ := hv
                have hM2 := hM1.symm
                subst hM2
                generalize hq_w26 : F_Ck_rename cs w21.2 a0 (cI w21.2 (x1.getD 0) 3) w5.1 = w26 at hF hS hx hle ⊢
                cases hx
                refine GW.eqs (st' := [.int w26.1]) rfl ?_
                refine g_pop C d_Ck_lookRec_104 rfl ?_
                refine g_iload C d_Ck_lookRec_105 rfl ?_
                exact c_iret (M := w26.2) C hr hlocks hle d_Ck_lookRec_107 (by rw [← hF]; exact ⟨rfl, rfl⟩)
              · cases hv.1
            · rw [if_neg hc22] at hF hS
              refine g_aload_n C d_Ck_lookRec_67 rfl ?_
              refine g_iload_n C d_Ck_lookRec_68 rfl ?_
              refine q_aload_n (r := x1) C d_Ck_lookRec_69 rfl ?_
              obtain ⟨ho27, hS⟩ := hS
              refine GW.known1 (a := x1.getD 0) (cOq.at ho27).1 ?_
              refine c_geti C hE.1 (ci := 4) i_No rfl 4 (by decide) (by decide) (by decide) kf_Ck_117 d_Ck_lookRec_70 (cOq.at ho27).2 ?_
              refine g_iload C d_Ck_lookRec_73 rfl ?_
              obtain ⟨ho28, hS⟩ := hS
              obtain ⟨hs29, hS⟩ := hS
              refine c_call (av := [.ref a0, .int (cI M (x1.getD 0) 1), .int (cI w21.2 (x1.getD 0) 4), .int w17.1]) (rest := []) C hE (fun _ h => h) ⟨rfl, rfl⟩ hle (cc_Ck_bodyKeepsTo l hf D cs B dE lim _ a0 (cI M (x1.getD 0) 1) (cI w21.2 (x1.getD 0) 4) w17.1 hs29) (fun _ h => h) kd_Ck_bodyKeepsTo ki_Ck (by dsimp only; omega) (by dsimp only; omega) d_Ck_lookRec_75 (Nat.le_of_ble_eq_true rfl) (c_fV (n := 3) (ci := 6) C hE.1 rfl km_Ck_135 kv_Ck_bodyKeepsTo kl_Ck_bodyKeepsTo kd_Ck_bodyKeepsTo ⟨by decide, by decide, by decide⟩ rfl rfl d_Ck_lookRec_75 ho28) (fun v1 M1 hv hle => ?_) (fun E1 M1 hv hle => ?_)
              · rw [mbind_eq] at hF hS
                obtain ⟨hx, hM1⟩ := hv
                have hM2 := hM1.symm
                subst hM2
                generalize hq_w30 : F_Ck_bodyKeepsTo cs w21.2 a0 (cI M (x1.getD 0) 1) (cI w21.2 (x1.getD 0) 4) w17.1 = w30 at hF hS hx hle ⊢
                cases hx
                refine GW.eqs (st' := [.int w30.1]) rfl ?_
                refine g_if_eq C 94 d_Ck_lookRec_78 (by decide) (fun hc31 => ?_) (fun hc31 => ?_)
                · rw [if_pos hc31] at hF hS
                  refine g_aload_n C d_Ck_lookRec_94 rfl ?_
                  refine q_aload_n (r := x1) C d_Ck_lookRec_95 rfl ?_
                  obtain ⟨ho32, hS⟩ := hS
                  refine GW.known1 (a := x1.getD 0) (cOq.at ho32).1 ?_
                  refine c_geti C hE.1 (ci := 4) i_No rfl 3 (by decide) (by decide) (by decide) kf_Ck_129 d_Ck_lookRec_96 (cOq.at ho32).2 ?_
                  refine g_iload C d_Ck_lookRec_99 rfl ?_
                  obtain ⟨ho33, hS⟩ := hS
                  obtain ⟨hs34, hS⟩ := hS
                  refine c_call (av := [.ref a0, .int (cI w30.2 (x1.getD 0) 3), .int w5.1]) (rest := []) C hE (fun _ h => h) ⟨rfl, rfl⟩ hle (cc_Ck_rename l hf D cs B dE lim _ a0 (cI w30.2 (x1.getD 0) 3) w5.1 hs34) (fun _ h => h) kd_Ck_rename ki_Ck (by dsimp only; omega) (by dsimp only; omega) d_Ck_lookRec_101 (Nat.le_of_ble_eq_true rfl) (c_fV (n := 2) (ci := 6) C hE.1 rfl km_Ck_123 kv_Ck_rename kl_Ck_rename kd_Ck_rename ⟨by decide, by decide, by decide⟩ rfl rfl d_Ck_lookRec_101 ho33) (fun v1 M1 hv hle => ?_) (fun E1 M1 hv hle => ?_)
                  · rw [mbind_eq] at hF hS
                    obtain ⟨hx, hM1⟩ := hv
                    have hM2 := hM1.symm
                    subst hM2
                    generalize hq_w35 : F_Ck_rename cs w30.2 a0 (cI w30.2 (x1.getD 0) 3) w5.1 = w35 at hF hS hx hle ⊢
                    cases hx
                    refine GW.eqs (st' := [.int w35.1]) rfl ?_
                    refine g_pop C d_Ck_lookRec_104 rfl ?_
                    refine g_iload C d_Ck_lookRec_105 rfl ?_
                    exact c_iret (M := w35.2) C hr hlocks hle d_Ck_lookRec_107 (by rw [← hF]; exact ⟨rfl, rfl⟩)
                  · cases hv.1
                · rw [if_neg hc31] at hF hS
                  refine g_aload_n C d_Ck_lookRec_81 rfl ?_
                  refine q_aload_n (r := x1) C d_Ck_lookRec_82 rfl ?_
                  obtain ⟨ho36, hS⟩ := hS
                  refine GW.known1 (a := x1.getD 0) (cOq.at ho36).1 ?_
                  refine c_geti C hE.1 (ci := 4) i_No rfl 5 (by decide) (by decide) (by decide) kf_Ck_126 d_Ck_lookRec_83 (cOq.at ho36).2 ?_
                  refine g_iload_n C d_Ck_lookRec_86 rfl ?_
                  refine g_iconst (v := 1) C d_Ck_lookRec_87 (by decide) ?_
                  refine g_iadd C d_Ck_lookRec_88 ?_
                  obtain ⟨ho37, hS⟩ := hS
                  obtain ⟨hs38, hS⟩ := hS
                  refine c_call (av := [.ref a0, .int (cI w30.2 (x1.getD 0) 5), .int (x2 + 1)]) (rest := []) C hE (fun _ h => h) ⟨rfl, rfl⟩ hle (hL _ a0 (cI w30.2 (x1.getD 0) 5) (x2 + 1) hs38) (fun _ h => h) kd_Ck_look ki_Ck (by dsimp only; omega) (by dsimp only; omega) d_Ck_lookRec_89 (Nat.le_of_ble_eq_true rfl) (c_fV (n := 2) (ci := 6) C hE.1 rfl km_Ck_54 kv_Ck_look kl_Ck_look kd_Ck_look ⟨by decide, by decide, by decide⟩ rfl rfl d_Ck_lookRec_89 ho37) (fun v1 M1 hv hle => ?_) (fun E1 M1 hv hle => ?_)
                  · rw [mbind_eq] at hF hS
                    obtain ⟨hx, hM1⟩ := hv
                    have hM2 := hM1.symm
                    subst hM2
                    generalize hq_w39 : Lf w30.2 a0 (cI w30.2 (x1.getD 0) 5) (x2 + 1) = w39 at hF hS hx hle ⊢
                    cases hx
                    refine GW.eqs (st' := [.int w39.1]) rfl ?_
                    refine g_istore (lv' := [(7, .int w39.1), (6, .int w17.1), (5, .int w13.1), (4, .int w5.1), (3, .int (cI M (x1.getD 0) 1)), (0, .ref a0), (1, va_rf x1), (2, .int x2)]) C d_Ck_lookRec_92 (by decide) rfl ?_
                    refine g_aload_n C d_Ck_lookRec_94 rfl ?_
                    refine q_aload_n (r := x1) C d_Ck_lookRec_95 rfl ?_
                    obtain ⟨ho40, hS⟩ := hS
                    refine GW.known1 (a := x1.getD 0) (cOq.at ho40).1 ?_
                    refine c_geti C hE.1 (ci := 4) i_No rfl 3 (by decide) (by decide) (by decide) kf_Ck_129 d_Ck_lookRec_96 (cOq.at ho40).2 ?_
                    refine g_iload C d_Ck_lookRec_99 rfl ?_
                    obtain ⟨ho41, hS⟩ := hS
                    obtain ⟨hs42, hS⟩ := hS
                    refine c_call (av := [.ref a0, .int (cI w39.2 (x1.getD 0) 3), .int w5.1]) (rest := []) C hE (fun _ h => h) ⟨rfl, rfl⟩ hle (cc_Ck_rename l hf D cs B dE lim _ a0 (cI w39.2 (x1.getD 0) 3) w5.1 hs42) (fun _ h => h) kd_Ck_rename ki_Ck (by dsimp only; omega) (by dsimp only; omega) d_Ck_lookRec_101 (Nat.le_of_ble_eq_true rfl) (c_fV (n := 2) (ci := 6) C hE.1 rfl km_Ck_123 kv_Ck_rename kl_Ck_rename kd_Ck_rename ⟨by decide, by decide, by decide⟩ rfl rfl d_Ck_lookRec_101 ho41) (fun v1 M1 hv hle => ?_) (fun E1 M1 hv hle => ?_)
                    · rw [mbind_eq] at hF hS
                      obtain ⟨hx, hM1⟩ := hv
                      have hM2 := hM1.symm
                      subst hM2
                      generalize hq_w43 : F_Ck_rename cs w39.2 a0 (cI w39.2 (x1.getD 0) 3) w5.1 = w43 at hF hS hx hle ⊢
                      cases hx
                      refine GW.eqs (st' := [.int w43.1]) rfl ?_
                      refine g_pop C d_Ck_lookRec_104 rfl ?_
                      refine g_iload C d_Ck_lookRec_105 rfl ?_
                      exact c_iret (M := w43.2) C hr hlocks hle d_Ck_lookRec_107 (by rw [← hF]; exact ⟨rfl, rfl⟩)
                    · cases hv.1
                  · cases hv.1
              · cases hv.1
          · cases hv.1
        · cases hv.1
      · cases hv.1
    · cases hv.1
  · cases hv.1
def F_Ck_lookChoice (cs : Nat → ClassId) (n : Nat) (Lf : gMem → Nat → Int32 → Int32 → Int32 × gMem) (M : gMem) (a0 : Nat) (x1 : Option Nat) (x2 : Int32) : Int32 × gMem := mbind (Lf M a0 (cI M (x1.getD 0) 4) (x2 + 1)) (fun w4 => if w4.1 = (-1) then (((-1), w4.2)) else (mbind (F_Ck_typeIn cs w4.2 w4.1) (fun w7 => if w7 = 1 then (mbind (Lf w4.2 a0 (cI w4.2 (x1.getD 0) 5) (x2 + 1)) (fun w12 => if w12.1 = (-1) then (if ((-1) : Int32) = (-1) then (((-1), w12.2)) else (mbind (F_Ck_typeIn cs w12.2 (-1)) (fun w40 => mbind (F_Ck_typeIn cs w12.2 w12.1) (fun w42 => if w40 = w42 then (mbind (F_Ck_typeIn cs w12.2 w12.1) (fun w45 => mbind (F_Ck_effectsIn cs w12.2 w4.1) (fun w47 => mbind (F_Ck_effectsIn cs w12.2 w12.1) (fun w49 => mbind (F_Ck_effectsIn cs w12.2 (-1)) (fun w51 => mbind (F_Ck_seenAs cs w12.2 w42 ((w47 ||| w49) ||| w51)) (fun w53 => (w53, w12.2))))))) else (mbind (F_Ck_blame cs w12.2 a0 6 (cI w12.2 (x1.getD 0) 6)) (fun w57 => (w57.1, w57.2))))))) else (mbind (Lf w12.2 a0 (cI w12.2 (x1.getD 0) 6) (x2 + 1)) (fun w17 => if w17.1 = (-1) then (((-1), w17.2)) else (mbind (F_Ck_typeIn cs w17.2 w17.1) (fun w20 => mbind (F_Ck_typeIn cs w17.2 w12.1) (fun w22 => if w20 = w22 then (mbind (F_Ck_typeIn cs w17.2 w12.1) (fun w25 => mbind (F_Ck_effectsIn cs w17.2 w4.1) (fun w27 => mbind (F_Ck_effectsIn cs w17.2 w12.1) (fun w29 => mbind (F_Ck_effectsIn cs w17.2 w17.1) (fun w31 => mbind (F_Ck_seenAs cs w17.2 w22 ((w27 ||| w29) ||| w31)) (fun w33 => (w33, w17.2))))))) else (mbind (F_Ck_blame cs w17.2 a0 6 (cI w17.2 (x1.getD 0) 6)) (fun w37 => (w37.1, w37.2)))))))))) else (mbind (F_Ck_blame cs w4.2 a0 6 (cI w4.2 (x1.getD 0) 4)) (fun w61 => (w61.1, w61.2))))))
def S_Ck_lookChoice (cs : Nat → ClassId) (lim : Nat × Nat) (n : Nat) (Lf : gMem → Nat → Int32 → Int32 → Int32 × gMem) (Ls : gMem → Nat → Int32 → Int32 → Prop) (M : gMem) (a0 : Nat) (x1 : Option Nat) (x2 : Int32) : Prop := (cOq 4 M x1) ∧ ((cOk 6 M a0) ∧ ((Ls M a0 (cI M (x1.getD 0) 4) (x2 + 1)) ∧ (mbind (Lf M a0 (cI M (x1.getD 0) 4) (x2 + 1)) (fun w4 => if w4.1 = (-1) then (True) else ((S_Ck_typeIn cs lim w4.2 w4.1) ∧ (mbind (F_Ck_typeIn cs w4.2 w4.1) (fun w7 => if w7 = 1 then ((cOq 4 w4.2 x1) ∧ ((cOk 6 w4.2 a0) ∧ ((Ls w4.2 a0 (cI w4.2 (x1.getD 0) 5) (x2 + 1)) ∧ (mbind (Lf w4.2 a0 (cI w4.2 (x1.getD 0) 5) (x2 + 1)) (fun w12 => if w12.1 = (-1) then (if ((-1) : Int32) = (-1) then (True) else ((S_Ck_typeIn cs lim w12.2 (-1)) ∧ (mbind (F_Ck_typeIn cs w12.2 (-1)) (fun w40 => (S_Ck_typeIn cs lim w12.2 w12.1) ∧ (mbind (F_Ck_typeIn cs w12.2 w12.1) (fun w42 => if w40 = w42 then ((S_Ck_typeIn cs lim w12.2 w12.1) ∧ (mbind (F_Ck_typeIn cs w12.2 w12.1) (fun w45 => (S_Ck_effectsIn cs lim w12.2 w4.1) ∧ (mbind (F_Ck_effectsIn cs w12.2 w4.1) (fun w47 => (S_Ck_effectsIn cs lim w12.2 w12.1) ∧ (mbind (F_Ck_effectsIn cs w12.2 w12.1) (fun w49 => (S_Ck_effectsIn cs lim w12.2 (-1)) ∧ (mbind (F_Ck_effectsIn cs w12.2 (-1)) (fun w51 => (S_Ck_seenAs cs lim w12.2 w42 ((w47 ||| w49) ||| w51)) ∧ (mbind (F_Ck_seenAs cs w12.2 w42 ((w47 ||| w49) ||| w51)) (fun w53 => True))))))))))) else ((cOq 4 w12.2 x1) ∧ ((cOk 6 w12.2 a0) ∧ ((S_Ck_blame cs lim w12.2 a0 6 (cI w12.2 (x1.getD 0) 6)) ∧ (mbind (F_Ck_blame cs w12.2 a0 6 (cI w12.2 (x1.getD 0) 6)) (fun w57 => True))))))))))) else ((cOq 4 w12.2 x1) ∧ ((cOk 6 w12.2 a0) ∧ ((Ls w12.2 a0 (cI w12.2 (x1.getD 0) 6) (x2 + 1)) ∧ (mbind (Lf w12.2 a0 (cI w12.2 (x1.getD 0) 6) (x2 + 1)) (fun w17 => if w17.1 = (-1) then (True) else ((S_Ck_typeIn cs lim w17.2 w17.1) ∧ (mbind (F_Ck_typeIn cs w17.2 w17.1) (fun w20 => (S_Ck_typeIn cs lim w17.2 w12.1) ∧ (mbind (F_Ck_typeIn cs w17.2 w12.1) (fun w22 => if w20 = w22 then ((S_Ck_typeIn cs lim w17.2 w12.1) ∧ (mbind (F_Ck_typeIn cs w17.2 w12.1) (fun w25 => (S_Ck_effectsIn cs lim w17.2 w4.1) ∧ (mbind (F_Ck_effectsIn cs w17.2 w4.1) (fun w27 => (S_Ck_effectsIn cs lim w17.2 w12.1) ∧ (mbind (F_Ck_effectsIn cs w17.2 w12.1) (fun w29 => (S_Ck_effectsIn cs lim w17.2 w17.1) ∧ (mbind (F_Ck_effectsIn cs w17.2 w17.1) (fun w31 => (S_Ck_seenAs cs lim w17.2 w22 ((w27 ||| w29) ||| w31)) ∧ (mbind (F_Ck_seenAs cs w17.2 w22 ((w27 ||| w29) ||| w31)) (fun w33 => True))))))))))) else ((cOq 4 w17.2 x1) ∧ ((cOk 6 w17.2 a0) ∧ ((S_Ck_blame cs lim w17.2 a0 6 (cI w17.2 (x1.getD 0) 6)) ∧ (mbind (F_Ck_blame cs w17.2 a0 6 (cI w17.2 (x1.getD 0) 6)) (fun w37 => True)))))))))))))))))))) else ((cOq 4 w4.2 x1) ∧ ((cOk 6 w4.2 a0) ∧ ((S_Ck_blame cs lim w4.2 a0 6 (cI w4.2 (x1.getD 0) 4)) ∧ (mbind (F_Ck_blame cs w4.2 a0 6 (cI w4.2 (x1.getD 0) 4)) (fun w61 => True))))))))))))
set_option maxRecDepth 100000 in
set_option maxHeartbeats 4000000 in
theorem cc_Ck_lookChoice (l : Launch) (hf : l.flags = pinnedFlags ++ [noTraceFlag]) (D : va_G) (cs : Nat → ClassId) (B : Nat) (dE : Nat × Nat) (lim : Nat × Nat) (n : Nat) (Lf : gMem → Nat → Int32 → Int32 → Int32 × gMem) (Ls : gMem → Nat → Int32 → Int32 → Prop) (frL loL : Nat) (hL : ∀ (M : gMem) (a0 : Nat) (x1 x2 : Int32), Ls M a0 x1 x2 → cMet l y_Ck_look (Cond.code y_Ck_look c_Ck_look 4 (some .int)) frL loL D cs B dE (gA B) lim [.ref a0, .int x1, .int x2] M (fun x M' => x = .inl (some (.int ((Lf M a0 x1 x2).1))) ∧ M' = (Lf M a0 x1 x2).2)) (M : gMem) (a0 : Nat) (x1 : Option Nat) (x2 : Int32) (hS : S_Ck_lookChoice cs lim n Lf Ls M a0 x1 x2) : cMet l y_Ck_lookChoice (Cond.code y_Ck_lookChoice c_Ck_lookChoice 6 (some .int)) (frL + 8) (loL + 280) D cs B dE (gA B) lim [.ref a0, va_rf x1, .int x2] M (fun x M' => x = .inl (some (.int ((F_Ck_lookChoice cs n Lf M a0 x1 x2).1))) ∧ M' = (F_Ck_lookChoice cs n Lf M a0 x1 x2).2) := by
  refine cMet.ofW (by decide) (by cases x1 <;> exact Nat.le_of_ble_eq_true rfl) (lv0 := [(0, .ref a0), (1, va_rf x1), (2, .int x2)]) (by cases x1 <;> rfl) ?_
  intro p e s m args below meth c C hE hR0 hle hr hlocks hex hn
  generalize hF : F_Ck_lookChoice cs n Lf M a0 x1 x2 = Fv
  unfold F_Ck_lookChoice at hF
  unfold S_Ck_lookChoice at hS
  refine g_aload_n C d_Ck_lookChoice_0 rfl ?_
  refine q_aload_n (r := x1) C d_Ck_lookChoice_1 rfl ?_
  obtain ⟨ho1, hS⟩ := hS
  refine GW.known1 (a := x1.getD 0) (cOq.at ho1).1 ?_
  refine c_geti C hE.1 (ci := 4) i_No rfl 4 (by decide) (by decide) (by decide) kf_Ck_117 d_Ck_lookChoice_2 (cOq.at ho1).2 ?_
  refine g_iload_n C d_Ck_lookChoice_5 rfl ?_
  refine g_iconst (v := 1) C d_Ck_lookChoice_6 (by decide) ?_
  refine g_iadd C d_Ck_lookChoice_7 ?_
  refine GW.more (A' := gA B) (fun _ h => h.elim) ?_
  obtain ⟨ho2, hS⟩ := hS
  obtain ⟨hs3, hS⟩ := hS
  refine c_call (av := [.ref a0, .int (cI M (x1.getD 0) 4), .int (x2 + 1)]) (rest := []) C hE (fun _ h => h) ⟨rfl, rfl⟩ hle (hL _ a0 (cI M (x1.getD 0) 4) (x2 + 1) hs3) (fun _ h => h) kd_Ck_look ki_Ck (by dsimp only; omega) (by dsimp only; omega) d_Ck_lookChoice_8 (Nat.le_of_ble_eq_true rfl) (c_fV (n := 2) (ci := 6) C hE.1 rfl km_Ck_54 kv_Ck_look kl_Ck_look kd_Ck_look ⟨by decide, by decide, by decide⟩ rfl rfl d_Ck_lookChoice_8 ho2) (fun v1 M1 hv hle => ?_) (fun E1 M1 hv hle => ?_)
  · rw [mbind_eq] at hF hS
    obtain ⟨hx, hM1⟩ := hv
    have hM2 := hM1.symm
    subst hM2
    generalize hq_w4 : Lf M a0 (cI M (x1.getD 0) 4) (x2 + 1) = w4 at hF hS hx hle ⊢
    cases hx
    refine GW.eqs (st' := [.int w4.1]) rfl ?_
    refine g_istore_n (lv' := [(3, .int w4.1), (0, .ref a0), (1, va_rf x1), (2, .int x2)]) C d_Ck_lookChoice_11 (by decide) rfl ?_
    refine g_iload_n C d_Ck_lookChoice_12 rfl ?_
    refine g_iconst (v := (-1)) C d_Ck_lookChoice_13 (by decide) ?_
    refine g_icmp_ne C 19 d_Ck_lookChoice_14 (by decide) (fun hc5 => ?_) (fun hc5 => ?_)
    · rw [if_neg hc5] at hF hS
      refine g_iload_n C d_Ck_lookChoice_19 rfl ?_
      obtain ⟨hs6, hS⟩ := hS
      refine c_call (av := [.int w4.1]) (rest := []) C hE (fun _ h => h) ⟨rfl, rfl⟩ hle (cc_Ck_typeIn l hf D cs B dE lim _ w4.1 hs6) (fun _ h => h.elim) kd_Ck_typeIn ki_Ck (by dsimp only; omega) (by dsimp only; omega) d_Ck_lookChoice_20 (Nat.le_of_ble_eq_true rfl) (c_fS (n := 1) C km_Ck_69 ks_Ck_typeIn ki_Ck kd_Ck_typeIn ⟨by decide, by decide, by decide⟩ rfl rfl d_Ck_lookChoice_20) (fun v1 M1 hv hle => ?_) (fun E1 M1 hv hle => ?_)
      · rw [mbind_eq] at hF hS
        obtain ⟨hx, hM1⟩ := hv
        have hM2 := hM1.symm
        subst hM2
        generalize hq_w7 : F_Ck_typeIn cs w4.2 w4.1 = w7 at hF hS hx hle ⊢
        cases hx
        refine GW.eqs (st' := [.int w7]) rfl ?_
        refine g_iconst (v := 1) C d_Ck_lookChoice_23 (by decide) ?_
        refine g_icmp_eq C 38 d_Ck_lookChoice_24 (by decide) (fun hc8 => ?_) (fun hc8 => ?_)
        · rw [if_pos hc8] at hF hS
          refine g_aload_n C d_Ck_lookChoice_38 rfl ?_
          refine q_aload_n (r := x1) C d_Ck_lookChoice_39 rfl ?_
          obtain ⟨ho9, hS⟩ := hS
          refine GW.known1 (a := x1.getD 0) (cOq.at ho9).1 ?_
          refine c_geti C hE.1 (ci := 4) i_No rfl 5 (by decide) (by decide) (by decide) kf_Ck_126 d_Ck_lookChoice_40 (cOq.at ho9).2 ?_
          refine g_iload_n C d_Ck_lookChoice_43 rfl ?_
          refine g_iconst (v := 1) C d_Ck_lookChoice_44 (by decide) ?_
          refine g_iadd C d_Ck_lookChoice_45 ?_
          obtain ⟨ho10, hS⟩ := hS
          obtain ⟨hs11, hS⟩ := hS
          refine c_call (av := [.ref a0, .int (cI w4.2 (x1.getD 0) 5), .int (x2 + 1)]) (rest := []) C hE (fun _ h => h) ⟨rfl, rfl⟩ hle (hL _ a0 (cI w4.2 (x1.getD 0) 5) (x2 + 1) hs11) (fun _ h => h) kd_Ck_look ki_Ck (by dsimp only; omega) (by dsimp only; omega) d_Ck_lookChoice_46 (Nat.le_of_ble_eq_true rfl) (c_fV (n := 2) (ci := 6) C hE.1 rfl km_Ck_54 kv_Ck_look kl_Ck_look kd_Ck_look ⟨by decide, by decide, by decide⟩ rfl rfl d_Ck_lookChoice_46 ho10) (fun v1 M1 hv hle => ?_) (fun E1 M1 hv hle => ?_)
          · rw [mbind_eq] at hF hS
            obtain ⟨hx, hM1⟩ := hv
            have hM2 := hM1.symm
            subst hM2
            generalize hq_w12 : Lf w4.2 a0 (cI w4.2 (x1.getD 0) 5) (x2 + 1) = w12 at hF hS hx hle ⊢
            cases hx
            refine GW.eqs (st' := [.int w12.1]) rfl ?_
            refine g_istore (lv' := [(4, .int w12.1), (3, .int w4.1), (0, .ref a0), (1, va_rf x1), (2, .int x2)]) C d_Ck_lookChoice_49 (by decide) rfl ?_
            refine g_iload C d_Ck_lookChoice_51 rfl ?_
            refine g_iconst (v := (-1)) C d_Ck_lookChoice_53 (by decide) ?_
            refine g_icmp_ne C 61 d_Ck_lookChoice_54 (by decide) (fun hc13 => ?_) (fun hc13 => ?_)
            · rw [if_neg hc13] at hF hS
              refine g_aload_n C d_Ck_lookChoice_61 rfl ?_
              refine q_aload_n (r := x1) C d_Ck_lookChoice_62 rfl ?_
              obtain ⟨ho14, hS⟩ := hS
              refine GW.known1 (a := x1.getD 0) (cOq.at ho14).1 ?_
              refine c_geti C hE.1 (ci := 4) i_No rfl 6 (by decide) (by decide) (by decide) kf_Ck_152 d_Ck_lookChoice_63 (cOq.at ho14).2 ?_
              refine g_iload_n C d_Ck_lookChoice_66 rfl ?_
              refine g_iconst (v := 1) C d_Ck_lookChoice_67 (by decide) ?_
              refine g_iadd C d_Ck_lookChoice_68 ?_
              obtain ⟨ho15, hS⟩ := hS
              obtain ⟨hs16, hS⟩ := hS
              refine c_call (av := [.ref a0, .int (cI w12.2 (x1.getD 0) 6), .int (x2 + 1)]) (rest := []) C hE (fun _ h => h) ⟨rfl, rfl⟩ hle (hL _ a0 (cI w12.2 (x1.getD 0) 6) (x2 + 1) hs16) (fun _ h => h) kd_Ck_look ki_Ck (by dsimp only; omega) (by dsimp only; omega) d_Ck_lookChoice_69 (Nat.le_of_ble_eq_true rfl) (c_fV (n := 2) (ci := 6) C hE.1 rfl km_Ck_54 kv_Ck_look kl_Ck_look kd_Ck_look ⟨by decide, by decide, by decide⟩ rfl rfl d_Ck_lookChoice_69 ho15) (fun v1 M1 hv hle => ?_) (fun E1 M1 hv hle => ?_)
              · rw [mbind_eq] at hF hS
                obtain ⟨hx, hM1⟩ := hv
                have hM2 := hM1.symm
                subst hM2
                generalize hq_w17 : Lf w12.2 a0 (cI w12.2 (x1.getD 0) 6) (x2 + 1) = w17 at hF hS hx hle ⊢
                cases hx
                refine GW.eqs (st' := [.int w17.1]) rfl ?_
                refine g_istore (lv' := [(5, .int w17.1), (4, .int w12.1), (3, .int w4.1), (0, .ref a0), (1, va_rf x1), (2, .int x2)]) C d_Ck_lookChoice_72 (by decide) rfl ?_
                refine g_iload C d_Ck_lookChoice_74 rfl ?_
                refine g_iconst (v := (-1)) C d_Ck_lookChoice_76 (by decide) ?_
                refine g_icmp_ne C 82 d_Ck_lookChoice_77 (by decide) (fun hc18 => ?_) (fun hc18 => ?_)
                · rw [if_neg hc18] at hF hS
                  refine g_iload C d_Ck_lookChoice_82 rfl ?_
                  obtain ⟨hs19, hS⟩ := hS
                  refine c_call (av := [.int w17.1]) (rest := []) C hE (fun _ h => h) ⟨rfl, rfl⟩ hle (cc_Ck_typeIn l hf D cs B dE lim _ w17.1 hs19) (fun _ h => h.elim) kd_Ck_typeIn ki_Ck (by dsimp only; omega) (by dsimp only; omega) d_Ck_lookChoice_84 (Nat.le_of_ble_eq_true rfl) (c_fS (n := 1) C km_Ck_69 ks_Ck_typeIn ki_Ck kd_Ck_typeIn ⟨by decide, by decide, by decide⟩ rfl rfl d_Ck_lookChoice_84) (fun v1 M1 hv hle => ?_) (fun E1 M1 hv hle => ?_)
                  · rw [mbind_eq] at hF hS
                    obtain ⟨hx, hM1⟩ := hv
                    have hM2 := hM1.symm
                    subst hM2
                    generalize hq_w20 : F_Ck_typeIn cs w17.2 w17.1 = w20 at hF hS hx hle ⊢
                    cases hx
                    refine GW.eqs (st' := [.int w20]) rfl ?_
                    refine g_iload C d_Ck_lookChoice_87 rfl ?_
                    obtain ⟨hs21, hS⟩ := hS
                    refine c_call (av := [.int w12.1]) (rest := [.int w20]) C hE (fun _ h => h) ⟨rfl, rfl⟩ hle (cc_Ck_typeIn l hf D cs B dE lim _ w12.1 hs21) (fun _ h => h.elim) kd_Ck_typeIn ki_Ck (by dsimp only; omega) (by dsimp only; omega) d_Ck_lookChoice_89 (Nat.le_of_ble_eq_true rfl) (c_fS (n := 1) C km_Ck_69 ks_Ck_typeIn ki_Ck kd_Ck_typeIn ⟨by decide, by decide, by decide⟩ rfl rfl d_Ck_lookChoice_89) (fun v1 M1 hv hle => ?_) (fun E1 M1 hv hle => ?_)
                    · rw [mbind_eq] at hF hS
                      obtain ⟨hx, hM1⟩ := hv
                      have hM2 := hM1.symm
                      subst hM2
                      generalize hq_w22 : F_Ck_typeIn cs w17.2 w12.1 = w22 at hF hS hx hle ⊢
                      cases hx
                      refine GW.eqs (st' := [.int w22, .int w20]) rfl ?_
                      refine g_icmp_eq C 106 d_Ck_lookChoice_92 (by decide) (fun hc23 => ?_) (fun hc23 => ?_)
                      · rw [if_pos hc23] at hF hS
                        refine g_iload C d_Ck_lookChoice_106 rfl ?_
                        obtain ⟨hs24, hS⟩ := hS
                        refine c_call (av := [.int w12.1]) (rest := []) C hE (fun _ h => h) ⟨rfl, rfl⟩ hle (cc_Ck_typeIn l hf D cs B dE lim _ w12.1 hs24) (fun _ h => h.elim) kd_Ck_typeIn ki_Ck (by dsimp only; omega) (by dsimp only; omega) d_Ck_lookChoice_108 (Nat.le_of_ble_eq_true rfl) (c_fS (n := 1) C km_Ck_69 ks_Ck_typeIn ki_Ck kd_Ck_typeIn ⟨by decide, by decide, by decide⟩ rfl rfl d_Ck_lookChoice_108) (fun v1 M1 hv hle => ?_) (fun E1 M1 hv hle => ?_)
                        · rw [mbind_eq] at hF hS
                          obtain ⟨hx, hM1⟩ := hv
                          have hM2 := hM1.symm
                          subst hM2
                          rw [hq_w22] at hx
                          cases hx
                          refine GW.eqs (st' := [.int w22]) rfl ?_
                          refine g_iload_n C d_Ck_lookChoice_111 rfl ?_
                          obtain ⟨hs26, hS⟩ := hS
                          refine c_call (av := [.int w4.1]) (rest := [.int w22]) C hE (fun _ h => h) ⟨rfl, rfl⟩ hle (cc_Ck_effectsIn l hf D cs B dE lim _ w4.1 hs26) (fun _ h => h.elim) kd_Ck_effectsIn ki_Ck (by dsimp only; omega) (by dsimp only; omega) d_Ck_lookChoice_112 (Nat.le_of_ble_eq_true rfl) (c_fS (n := 1) C km_Ck_65 ks_Ck_effectsIn ki_Ck kd_Ck_effectsIn ⟨by decide, by decide, by decide⟩ rfl rfl d_Ck_lookChoice_112) (fun v1 M1 hv hle => ?_) (fun E1 M1 hv hle => ?_)
                          · rw [mbind_eq] at hF hS
                            obtain ⟨hx, hM1⟩ := hv
                            have hM2 := hM1.symm
                            subst hM2
                            generalize hq_w27 : F_Ck_effectsIn cs w17.2 w4.1 = w27 at hF hS hx hle ⊢
                            cases hx
                            refine GW.eqs (st' := [.int w27, .int w22]) rfl ?_
                            refine g_iload C d_Ck_lookChoice_115 rfl ?_
                            obtain ⟨hs28, hS⟩ := hS
                            refine c_call (av := [.int w12.1]) (rest := [.int w27, .int w22]) C hE (fun _ h => h) ⟨rfl, rfl⟩ hle (cc_Ck_effectsIn l hf D cs B dE lim _ w12.1 hs28) (fun _ h => h.elim) kd_Ck_effectsIn ki_Ck (by dsimp only; omega) (by dsimp only; omega) d_Ck_lookChoice_117 (Nat.le_of_ble_eq_true rfl) (c_fS (n := 1) C km_Ck_65 ks_Ck_effectsIn ki_Ck kd_Ck_effectsIn ⟨by decide, by decide, by decide⟩ rfl rfl d_Ck_lookChoice_117) (fun v1 M1 hv hle => ?_) (fun E1 M1 hv hle => ?_)
                            · rw [mbind_eq] at hF hS
                              obtain ⟨hx, hM1⟩ := hv
                              have hM2 := hM1.symm
                              subst hM2
                              generalize hq_w29 : F_Ck_effectsIn cs w17.2 w12.1 = w29 at hF hS hx hle ⊢
                              cases hx
                              refine GW.eqs (st' := [.int w29, .int w27, .int w22]) rfl ?_
                              refine g_ior C d_Ck_lookChoice_120 ?_
                              refine g_iload C d_Ck_lookChoice_121 rfl ?_
                              obtain ⟨hs30, hS⟩ := hS
                              refine c_call (av := [.int w17.1]) (rest := [.int (w27 ||| w29), .int w22]) C hE (fun _ h => h) ⟨rfl, rfl⟩ hle (cc_Ck_effectsIn l hf D cs B dE lim _ w17.1 hs30) (fun _ h => h.elim) kd_Ck_effectsIn ki_Ck (by dsimp only; omega) (by dsimp only; omega) d_Ck_lookChoice_123 (Nat.le_of_ble_eq_true rfl) (c_fS (n := 1) C km_Ck_65 ks_Ck_effectsIn ki_Ck kd_Ck_effectsIn ⟨by decide, by decide, by decide⟩ rfl rfl d_Ck_lookChoice_123) (fun v1 M1 hv hle => ?_) (fun E1 M1 hv hle => ?_)
                              · rw [mbind_eq] at hF hS
                                obtain ⟨hx, hM1⟩ := hv
                                have hM2 := hM1.symm
                                subst hM2
                                generalize hq_w31 : F_Ck_effectsIn cs w17.2 w17.1 = w31 at hF hS hx hle ⊢
                                cases hx
                                refine GW.eqs (st' := [.int w31, .int (w27 ||| w29), .int w22]) rfl ?_
                                refine g_ior C d_Ck_lookChoice_126 ?_
                                obtain ⟨hs32, hS⟩ := hS
                                refine c_call (av := [.int w22, .int ((w27 ||| w29) ||| w31)]) (rest := []) C hE (fun _ h => h) ⟨rfl, rfl⟩ hle (cc_Ck_seenAs l hf D cs B dE lim _ w22 ((w27 ||| w29) ||| w31) hs32) (fun _ h => h.elim) kd_Ck_seenAs ki_Ck (by dsimp only; omega) (by dsimp only; omega) d_Ck_lookChoice_127 (Nat.le_of_ble_eq_true rfl) (c_fS (n := 2) C km_Ck_83 ks_Ck_seenAs ki_Ck kd_Ck_seenAs ⟨by decide, by decide, by decide⟩ rfl rfl d_Ck_lookChoice_127) (fun v1 M1 hv hle => ?_) (fun E1 M1 hv hle => ?_)
                                · rw [mbind_eq] at hF hS
                                  obtain ⟨hx, hM1⟩ := hv
                                  have hM2 := hM1.symm
                                  subst hM2
                                  generalize hq_w33 : F_Ck_seenAs cs w17.2 w22 ((w27 ||| w29) ||| w31) = w33 at hF hS hx hle ⊢
                                  cases hx
                                  refine GW.eqs (st' := [.int w33]) rfl ?_
                                  exact c_iret (M := w17.2) C hr hlocks hle d_Ck_lookChoice_130 (by rw [← hF]; exact ⟨rfl, rfl⟩)
                                · cases hv.1
                              · cases hv.1
                            · cases hv.1
                          · cases hv.1
                        · cases hv.1
                      · rw [if_neg hc23] at hF hS
                        refine g_aload_n C d_Ck_lookChoice_95 rfl ?_
                        refine g_bipush (v := 6) C d_Ck_lookChoice_96 (by decide) ?_
                        refine q_aload_n (r := x1) C d_Ck_lookChoice_98 rfl ?_
                        obtain ⟨ho34, hS⟩ := hS
                        refine GW.known1 (a := x1.getD 0) (cOq.at ho34).1 ?_
                        refine c_geti C hE.1 (ci := 4) i_No rfl 6 (by decide) (by decide) (by decide) kf_Ck_152 d_Ck_lookChoice_99 (cOq.at ho34).2 ?_
                        obtain ⟨ho35, hS⟩ := hS
                        obtain ⟨hs36, hS⟩ := hS
                        refine c_call (av := [.ref a0, .int 6, .int (cI w17.2 (x1.getD 0) 6)]) (rest := []) C hE (fun _ h => h) ⟨rfl, rfl⟩ hle (cc_Ck_blame l hf D cs B dE lim _ a0 6 (cI w17.2 (x1.getD 0) 6) hs36) (fun _ h => h) kd_Ck_blame ki_Ck (by dsimp only; omega) (by dsimp only; omega) d_Ck_lookChoice_102 (Nat.le_of_ble_eq_true rfl) (c_fV (n := 2) (ci := 6) C hE.1 rfl km_Ck_58 kv_Ck_blame kl_Ck_blame kd_Ck_blame ⟨by decide, by decide, by decide⟩ rfl rfl d_Ck_lookChoice_102 ho35) (fun v1 M1 hv hle => ?_) (fun E1 M1 hv hle => ?_)
                        · rw [mbind_eq] at hF hS
                          obtain ⟨hx, hM1⟩ := hv
                          have hM2 := hM1.symm
                          subst hM2
                          generalize hq_w37 : F_Ck_blame cs w17.2 a0 6 (cI w17.2 (x1.getD 0) 6) = w37 at hF hS hx hle ⊢
                          cases hx
                          refine GW.eqs (st' := [.int w37.1]) rfl ?_
                          exact c_iret (M := w37.2) C hr hlocks hle d_Ck_lookChoice_105 (by rw [← hF]; exact ⟨rfl, rfl⟩)
                        · cases hv.1
                    · cases hv.1
                  · cases hv.1
                · rw [if_pos hc18] at hF hS
                  refine g_iconst (v := (-1)) C d_Ck_lookChoice_80 (by decide) ?_
                  exact c_iret (M := w17.2) C hr hlocks hle d_Ck_lookChoice_81 (by rw [← hF]; exact ⟨rfl, rfl⟩)
              · cases hv.1
            · rw [if_pos hc13] at hF hS
              refine g_iconst (v := (-1)) C d_Ck_lookChoice_57 (by decide) ?_
              refine g_goto C 72 d_Ck_lookChoice_58 (by decide) ?_
              refine g_istore (lv' := [(5, .int (-1)), (4, .int w12.1), (3, .int w4.1), (0, .ref a0), (1, va_rf x1), (2, .int x2)]) C d_Ck_lookChoice_72 (by decide) rfl ?_
              refine g_iload C d_Ck_lookChoice_74 rfl ?_
              refine g_iconst (v := (-1)) C d_Ck_lookChoice_76 (by decide) ?_
              refine g_icmp_ne C 82 d_Ck_lookChoice_77 (by decide) (fun hc38 => ?_) (fun hc38 => ?_)
              · rw [if_neg hc38] at hF hS
                refine g_iload C d_Ck_lookChoice_82 rfl ?_
                obtain ⟨hs39, hS⟩ := hS
                refine c_call (av := [.int (-1)]) (rest := []) C hE (fun _ h => h) ⟨rfl, rfl⟩ hle (cc_Ck_typeIn l hf D cs B dE lim _ (-1) hs39) (fun _ h => h.elim) kd_Ck_typeIn ki_Ck (by dsimp only; omega) (by dsimp only; omega) d_Ck_lookChoice_84 (Nat.le_of_ble_eq_true rfl) (c_fS (n := 1) C km_Ck_69 ks_Ck_typeIn ki_Ck kd_Ck_typeIn ⟨by decide, by decide, by decide⟩ rfl rfl d_Ck_lookChoice_84) (fun v1 M1 hv hle => ?_) (fun E1 M1 hv hle => ?_)
                · rw [mbind_eq] at hF hS
                  obtain ⟨hx, hM1⟩ := hv
                  have hM2 := hM1.symm
                  subst hM2
                  generalize hq_w40 : F_Ck_typeIn cs w12.2 (-1) = w40 at hF hS hx hle ⊢
                  cases hx
                  refine GW.eqs (st' := [.int w40]) rfl ?_
                  refine g_iload C d_Ck_lookChoice_87 rfl ?_
                  obtain ⟨hs41, hS⟩ := hS
                  refine c_call (av := [.int w12.1]) (rest := [.int w40]) C hE (fun _ h => h) ⟨rfl, rfl⟩ hle (cc_Ck_typeIn l hf D cs B dE lim _ w12.1 hs41) (fun _ h => h.elim) kd_Ck_typeIn ki_Ck (by dsimp only; omega) (by dsimp only; omega) d_Ck_lookChoice_89 (Nat.le_of_ble_eq_true rfl) (c_fS (n := 1) C km_Ck_69 ks_Ck_typeIn ki_Ck kd_Ck_typeIn ⟨by decide, by decide, by decide⟩ rfl rfl d_Ck_lookChoice_89) (fun v1 M1 hv hle => ?_) (fun E1 M1 hv hle => ?_)
                  · rw [mbind_eq] at hF hS
                    obtain ⟨hx, hM1⟩ := hv
                    have hM2 := hM1.symm
                    subst hM2
                    generalize hq_w42 : F_Ck_typeIn cs w12.2 w12.1 = w42 at hF hS hx hle ⊢
                    cases hx
                    refine GW.eqs (st' := [.int w42, .int w40]) rfl ?_
                    refine g_icmp_eq C 106 d_Ck_lookChoice_92 (by decide) (fun hc43 => ?_) (fun hc43 => ?_)
                    · rw [if_pos hc43] at hF hS
                      refine g_iload C d_Ck_lookChoice_106 rfl ?_
                      obtain ⟨hs44, hS⟩ := hS
                      refine c_call (av := [.int w12.1]) (rest := []) C hE (fun _ h => h) ⟨rfl, rfl⟩ hle (cc_Ck_typeIn l hf D cs B dE lim _ w12.1 hs44) (fun _ h => h.elim) kd_Ck_typeIn ki_Ck (by dsimp only; omega) (by dsimp only; omega) d_Ck_lookChoice_108 (Nat.le_of_ble_eq_true rfl) (c_fS (n := 1) C km_Ck_69 ks_Ck_typeIn ki_Ck kd_Ck_typeIn ⟨by decide, by decide, by decide⟩ rfl rfl d_Ck_lookChoice_108) (fun v1 M1 hv hle => ?_) (fun E1 M1 hv hle => ?_)
                      · rw [mbind_eq] at hF hS
                        obtain ⟨hx, hM1⟩ := hv
                        have hM2 := hM1.symm
                        subst hM2
                        rw [hq_w42] at hx
                        cases hx
                        refine GW.eqs (st' := [.int w42]) rfl ?_
                        refine g_iload_n C d_Ck_lookChoice_111 rfl ?_
                        obtain ⟨hs46, hS⟩ := hS
                        refine c_call (av := [.int w4.1]) (rest := [.int w42]) C hE (fun _ h => h) ⟨rfl, rfl⟩ hle (cc_Ck_effectsIn l hf D cs B dE lim _ w4.1 hs46) (fun _ h => h.elim) kd_Ck_effectsIn ki_Ck (by dsimp only; omega) (by dsimp only; omega) d_Ck_lookChoice_112 (Nat.le_of_ble_eq_true rfl) (c_fS (n := 1) C km_Ck_65 ks_Ck_effectsIn ki_Ck kd_Ck_effectsIn ⟨by decide, by decide, by decide⟩ rfl rfl d_Ck_lookChoice_112) (fun v1 M1 hv hle => ?_) (fun E1 M1 hv hle => ?_)
                        · rw [mbind_eq] at hF hS
                          obtain ⟨hx, hM1⟩ := hv
                          have hM2 := hM1.symm
                          subst hM2
                          generalize hq_w47 : F_Ck_effectsIn cs w12.2 w4.1 = w47 at hF hS hx hle ⊢
                          cases hx
                          refine GW.eqs (st' := [.int w47, .int w42]) rfl ?_
                          refine g_iload C d_Ck_lookChoice_115 rfl ?_
                          obtain ⟨hs48, hS⟩ := hS
                          refine c_call (av := [.int w12.1]) (rest := [.int w47, .int w42]) C hE (fun _ h => h) ⟨rfl, rfl⟩ hle (cc_Ck_effectsIn l hf D cs B dE lim _ w12.1 hs48) (fun _ h => h.elim) kd_Ck_effectsIn ki_Ck (by dsimp only; omega) (by dsimp only; omega) d_Ck_lookChoice_117 (Nat.le_of_ble_eq_true rfl) (c_fS (n := 1) C km_Ck_65 ks_Ck_effectsIn ki_Ck kd_Ck_effectsIn ⟨by decide, by decide, by decide⟩ rfl rfl d_Ck_lookChoice_117) (fun v1 M1 hv hle => ?_) (fun E1 M1 hv hle => ?_)
                          · rw [mbind_eq] at hF hS
                            obtain ⟨hx, hM1⟩ := hv
                            have hM2 := hM1.symm
                            subst hM2
                            generalize hq_w49 : F_Ck_effectsIn cs w12.2 w12.1 = w49 at hF hS hx hle ⊢
                            cases hx
                            refine GW.eqs (st' := [.int w49, .int w47, .int w42]) rfl ?_
                            refine g_ior C d_Ck_lookChoice_120 ?_
                            refine g_iload C d_Ck_lookChoice_121 rfl ?_
                            obtain ⟨hs50, hS⟩ := hS
                            refine c_call (av := [.int (-1)]) (rest := [.int (w47 ||| w49), .int w42]) C hE (fun _ h => h) ⟨rfl, rfl⟩ hle (cc_Ck_effectsIn l hf D cs B dE lim _ (-1) hs50) (fun _ h => h.elim) kd_Ck_effectsIn ki_Ck (by dsimp only; omega) (by dsimp only; omega) d_Ck_lookChoice_123 (Nat.le_of_ble_eq_true rfl) (c_fS (n := 1) C km_Ck_65 ks_Ck_effectsIn ki_Ck kd_Ck_effectsIn ⟨by decide, by decide, by decide⟩ rfl rfl d_Ck_lookChoice_123) (fun v1 M1 hv hle => ?_) (fun E1 M1 hv hle => ?_)
                            · rw [mbind_eq] at hF hS
                              obtain ⟨hx, hM1⟩ := hv
                              have hM2 := hM1.symm
                              subst hM2
                              generalize hq_w51 : F_Ck_effectsIn cs w12.2 (-1) = w51 at hF hS hx hle ⊢
                              cases hx
                              refine GW.eqs (st' := [.int w51, .int (w47 ||| w49), .int w42]) rfl ?_
                              refine g_ior C d_Ck_lookChoice_126 ?_
                              obtain ⟨hs52, hS⟩ := hS
                              refine c_call (av := [.int w42, .int ((w47 ||| w49) ||| w51)]) (rest := []) C hE (fun _ h => h) ⟨rfl, rfl⟩ hle (cc_Ck_seenAs l hf D cs B dE lim _ w42 ((w47 ||| w49) ||| w51) hs52) (fun _ h => h.elim) kd_Ck_seenAs ki_Ck (by dsimp only; omega) (by dsimp only; omega) d_Ck_lookChoice_127 (Nat.le_of_ble_eq_true rfl) (c_fS (n := 2) C km_Ck_83 ks_Ck_seenAs ki_Ck kd_Ck_seenAs ⟨by decide, by decide, by decide⟩ rfl rfl d_Ck_lookChoice_127) (fun v1 M1 hv hle => ?_) (fun E1 M1 hv hle => ?_)
                              · rw [mbind_eq] at hF hS
                                obtain ⟨hx, hM1⟩ := hv
                                have hM2 := hM1.symm
                                subst hM2
                                generalize hq_w53 : F_Ck_seenAs cs w12.2 w42 ((w47 ||| w49) ||| w51) = w53 at hF hS hx hle ⊢
                                cases hx
                                refine GW.eqs (st' := [.int w53]) rfl ?_
                                exact c_iret (M := w12.2) C hr hlocks hle d_Ck_lookChoice_130 (by rw [← hF]; exact ⟨rfl, rfl⟩)
                              · cases hv.1
                            · cases hv.1
                          · cases hv.1
                        · cases hv.1
                      · cases hv.1
                    · rw [if_neg hc43] at hF hS
                      refine g_aload_n C d_Ck_lookChoice_95 rfl ?_
                      refine g_bipush (v := 6) C d_Ck_lookChoice_96 (by decide) ?_
                      refine q_aload_n (r := x1) C d_Ck_lookChoice_98 rfl ?_
                      obtain ⟨ho54, hS⟩ := hS
                      refine GW.known1 (a := x1.getD 0) (cOq.at ho54).1 ?_
                      refine c_geti C hE.1 (ci := 4) i_No rfl 6 (by decide) (by decide) (by decide) kf_Ck_152 d_Ck_lookChoice_99 (cOq.at ho54).2 ?_
                      obtain ⟨ho55, hS⟩ := hS
                      obtain ⟨hs56, hS⟩ := hS
                      refine c_call (av := [.ref a0, .int 6, .int (cI w12.2 (x1.getD 0) 6)]) (rest := []) C hE (fun _ h => h) ⟨rfl, rfl⟩ hle (cc_Ck_blame l hf D cs B dE lim _ a0 6 (cI w12.2 (x1.getD 0) 6) hs56) (fun _ h => h) kd_Ck_blame ki_Ck (by dsimp only; omega) (by dsimp only; omega) d_Ck_lookChoice_102 (Nat.le_of_ble_eq_true rfl) (c_fV (n := 2) (ci := 6) C hE.1 rfl km_Ck_58 kv_Ck_blame kl_Ck_blame kd_Ck_blame ⟨by decide, by decide, by decide⟩ rfl rfl d_Ck_lookChoice_102 ho55) (fun v1 M1 hv hle => ?_) (fun E1 M1 hv hle => ?_)
                      · rw [mbind_eq] at hF hS
                        obtain ⟨hx, hM1⟩ := hv
                        have hM2 := hM1.symm
                        subst hM2
                        generalize hq_w57 : F_Ck_blame cs w12.2 a0 6 (cI w12.2 (x1.getD 0) 6) = w57 at hF hS hx hle ⊢
                        cases hx
                        refine GW.eqs (st' := [.int w57.1]) rfl ?_
                        exact c_iret (M := w57.2) C hr hlocks hle d_Ck_lookChoice_105 (by rw [← hF]; exact ⟨rfl, rfl⟩)
                      · cases hv.1
                  · cases hv.1
                · cases hv.1
              · rw [if_pos hc38] at hF hS
                refine g_iconst (v := (-1)) C d_Ck_lookChoice_80 (by decide) ?_
                exact c_iret (M := w12.2) C hr hlocks hle d_Ck_lookChoice_81 (by rw [← hF]; exact ⟨rfl, rfl⟩)
          · cases hv.1
        · rw [if_neg hc8] at hF hS
          refine g_aload_n C d_Ck_lookChoice_27 rfl ?_
          refine g_bipush (v := 6) C d_Ck_lookChoice_28 (by decide) ?_
          refine q_aload_n (r := x1) C d_Ck_lookChoice_30 rfl ?_
          obtain ⟨ho58, hS⟩ := hS
          refine GW.known1 (a := x1.getD 0) (cOq.at ho58).1 ?_
          refine c_geti C hE.1 (ci := 4) i_No rfl 4 (by decide) (by decide) (by decide) kf_Ck_117 d_Ck_lookChoice_31 (cOq.at ho58).2 ?_
          obtain ⟨ho59, hS⟩ := hS
          obtain ⟨hs60, hS⟩ := hS
          refine c_call (av := [.ref a0, .int 6, .int (cI w4.2 (x1.getD 0) 4)]) (rest := []) C hE (fun _ h => h) ⟨rfl, rfl⟩ hle (cc_Ck_blame l hf D cs B dE lim _ a0 6 (cI w4.2 (x1.getD 0) 4) hs60) (fun _ h => h) kd_Ck_blame ki_Ck (by dsimp only; omega) (by dsimp only; omega) d_Ck_lookChoice_34 (Nat.le_of_ble_eq_true rfl) (c_fV (n := 2) (ci := 6) C hE.1 rfl km_Ck_58 kv_Ck_blame kl_Ck_blame kd_Ck_blame ⟨by decide, by decide, by decide⟩ rfl rfl d_Ck_lookChoice_34 ho59) (fun v1 M1 hv hle => ?_) (fun E1 M1 hv hle => ?_)
          · rw [mbind_eq] at hF hS
            obtain ⟨hx, hM1⟩ := hv
            have hM2 := hM1.symm
            subst hM2
            generalize hq_w61 : F_Ck_blame cs w4.2 a0 6 (cI w4.2 (x1.getD 0) 4) = w61 at hF hS hx hle ⊢
            cases hx
            refine GW.eqs (st' := [.int w61.1]) rfl ?_
            exact c_iret (M := w61.2) C hr hlocks hle d_Ck_lookChoice_37 (by rw [← hF]; exact ⟨rfl, rfl⟩)
          · cases hv.1
      · cases hv.1
    · rw [if_pos hc5] at hF hS
      refine g_iconst (v := (-1)) C d_Ck_lookChoice_17 (by decide) ?_
      exact c_iret (M := w4.2) C hr hlocks hle d_Ck_lookChoice_18 (by rw [← hF]; exact ⟨rfl, rfl⟩)
  · cases hv.1
