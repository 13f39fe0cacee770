def F_N_function (cs : Nat → ClassId) (n : Nat) (M : gMem) (a0 : Nat) (x1 : Int32) (x2 : Int32) (x3 : Int32) : Nat × Int32 × gMem := mbind (F_N_needType cs M a0 x1) (fun w3 => if w3 = 0 then (mbind (F_N_needType cs M a0 x2) (fun w7 => if w7 = 0 then (mbind (F_N_needRow cs M x3) (fun w10 => if w10 = 0 then (mbind (F_Ty_find cs n M ((cQ M a0 0).getD 0) x1 x2 x3) (fun w15 => if w15 = (-1) then (mbind (F_Ty_functions cs M ((cQ M a0 0).getD 0) ) (fun w20 => if w20 < 60 then (mbind (F_Ty_numberOf cs n M ((cQ M a0 0).getD 0) x1 x2 x3) (fun w25 => (0, w25.1, w25.2))) else ((2, 0, gsk M)))) else ((0, w15, M)))) else ((w10, 0, gsk M)))) else ((w7, 0, gsk M)))) else ((w3, 0, gsk M)))
def S_N_function (cs : Nat → ClassId) (lim : Nat × Nat) (n : Nat) (M : gMem) (a0 : Nat) (x1 : Int32) (x2 : Int32) (x3 : Int32) : Prop := (cOk 0 M a0) ∧ ((S_N_needType cs lim M a0 x1) ∧ (mbind (F_N_needType cs M a0 x1) (fun w3 => if w3 = 0 then ((cOk 0 M a0) ∧ ((S_N_needType cs lim M a0 x2) ∧ (mbind (F_N_needType cs M a0 x2) (fun w7 => if w7 = 0 then ((S_N_needRow cs lim M x3) ∧ (mbind (F_N_needRow cs M x3) (fun w10 => if w10 = 0 then ((cOk 0 M a0) ∧ ((cOq 1 M (cQ M a0 0)) ∧ ((S_Ty_find cs lim n M ((cQ M a0 0).getD 0) x1 x2 x3) ∧ (mbind (F_Ty_find cs n M ((cQ M a0 0).getD 0) x1 x2 x3) (fun w15 => if w15 = (-1) then ((cOk 0 M a0) ∧ ((cOq 1 M (cQ M a0 0)) ∧ ((S_Ty_functions cs lim M ((cQ M a0 0).getD 0) ) ∧ (mbind (F_Ty_functions cs M ((cQ M a0 0).getD 0) ) (fun w20 => if w20 < 60 then ((cOk 0 M a0) ∧ ((cOq 1 M (cQ M a0 0)) ∧ ((S_Ty_numberOf cs lim n M ((cQ M a0 0).getD 0) x1 x2 x3) ∧ (mbind (F_Ty_numberOf cs n M ((cQ M a0 0).getD 0) x1 x2 x3) (fun w25 => True))))) else ((M.2.1 + 1 ≤ lim.1 ∧ M.2.2 + 6 ≤ lim.2) ∧ (True))))))) else (True)))))) else (True)))) else (True))))) else (True))))
set_option maxRecDepth 100000 in
set_option maxHeartbeats 4000000 in
theorem cc_N_function (l : Launch) (hf : l.flags = pinnedFlags ++ [noTraceFlag]) (D : va_G) (cs : Nat → ClassId) (B : Nat) (dE : Nat × Nat) (lim : Nat × Nat) (n : Nat) (M : gMem) (a0 : Nat) (x1 : Int32) (x2 : Int32) (x3 : Int32) (hS : S_N_function cs lim n M a0 x1 x2 x3) : cMet l y_N_function (Cond.code y_N_function c_N_function 5 (some .int)) (7) (155) D cs B dE (gA B) lim [.ref a0, .int x1, .int x2, .int x3] M (fun x M' => x = (if (F_N_function cs n M a0 x1 x2 x3).1 = 0 then .inl (some (.int ((F_N_function cs n M a0 x1 x2 x3).2.1))) else .inr (exn (F_N_function cs n M a0 x1 x2 x3).1)) ∧ M' = (F_N_function cs n M a0 x1 x2 x3).2.2) := by
  refine cMet.ofW (by decide) (Nat.le_of_ble_eq_true rfl) (lv0 := [(0, .ref a0), (1, .int x1), (2, .int x2), (3, .int x3)]) rfl ?_
  intro p e s m args below meth c C hE hR0 hle hr hlocks hex hn
  generalize hF : F_N_function cs n M a0 x1 x2 x3 = Fv
  unfold F_N_function at hF
  unfold S_N_function at hS
  refine g_aload_n C d_N_function_0 rfl ?_
  refine g_iload_n C d_N_function_1 rfl ?_
  obtain ⟨ho1, hS⟩ := hS
  obtain ⟨hs2, hS⟩ := hS
  refine c_call (av := [.ref a0, .int x1]) (rest := []) C hE (fun _ h => h.elim) ⟨rfl, rfl⟩ hle (cc_N_needType l hf D cs B dE lim _ a0 x1 hs2) (fun _ h => h.elim) kd_N_needType ki_N (Nat.le_of_ble_eq_true rfl) (Nat.le_of_ble_eq_true rfl) d_N_function_2 (Nat.le_of_ble_eq_true rfl) (c_fV (n := 1) (ci := 0) C hE.1 rfl km_N_76 kv_N_needType kl_N_needType kd_N_needType ⟨by decide, by decide, by decide⟩ rfl rfl d_N_function_2 ho1) (fun v1 M1 hv hle => ?_) (fun E1 M1 hv hle => ?_)
  · rw [mbind_eq] at hF hS
    obtain ⟨hx, hM1⟩ := hv
    have hM2 := hM1.symm
    subst hM2
    generalize hq_w3 : F_N_needType cs M a0 x1 = w3 at hF hS hx hle ⊢
    by_cases h04 : w3 = 0
    · rw [if_pos h04] at hF hS hx hle
      rw [if_pos h04]
      cases hx
      refine GW.eqs (st' := []) rfl ?_
      refine g_aload_n C d_N_function_5 rfl ?_
      refine g_iload_n C d_N_function_6 rfl ?_
      obtain ⟨ho5, hS⟩ := hS
      obtain ⟨hs6, hS⟩ := hS
      refine c_call (av := [.ref a0, .int x2]) (rest := []) C hE (fun _ h => h.elim) ⟨rfl, rfl⟩ hle (cc_N_needType l hf D cs B dE lim _ a0 x2 hs6) (fun _ h => h.elim) kd_N_needType ki_N (Nat.le_of_ble_eq_true rfl) (Nat.le_of_ble_eq_true rfl) d_N_function_7 (Nat.le_of_ble_eq_true rfl) (c_fV (n := 1) (ci := 0) C hE.1 rfl km_N_76 kv_N_needType kl_N_needType kd_N_needType ⟨by decide, by decide, by decide⟩ rfl rfl d_N_function_7 ho5) (fun v1 M1 hv hle => ?_) (fun E1 M1 hv hle => ?_)
      · rw [mbind_eq] at hF hS
        obtain ⟨hx, hM1⟩ := hv
        have hM2 := hM1.symm
        subst hM2
        generalize hq_w7 : F_N_needType cs M a0 x2 = w7 at hF hS hx hle ⊢
        by_cases h08 : w7 = 0
        · rw [if_pos h08] at hF hS hx hle
          rw [if_pos h08]
          cases hx
          refine GW.eqs (st' := []) rfl ?_
          refine g_iload_n C d_N_function_10 rfl ?_
          obtain ⟨hs9, hS⟩ := hS
          refine c_call (av := [.int x3]) (rest := []) C hE (fun _ h => h.elim) ⟨rfl, rfl⟩ hle (cc_N_needRow l hf D cs B dE lim _ x3 hs9) (fun _ h => h.elim) kd_N_needRow ki_N (Nat.le_of_ble_eq_true rfl) (Nat.le_of_ble_eq_true rfl) d_N_function_11 (Nat.le_of_ble_eq_true rfl) (c_fS (n := 1) C km_N_79 ks_N_needRow ki_N kd_N_needRow ⟨by decide, by decide, by decide⟩ rfl rfl d_N_function_11) (fun v1 M1 hv hle => ?_) (fun E1 M1 hv hle => ?_)
          · rw [mbind_eq] at hF hS
            obtain ⟨hx, hM1⟩ := hv
            have hM2 := hM1.symm
            subst hM2
            generalize hq_w10 : F_N_needRow cs M x3 = w10 at hF hS hx hle ⊢
            by_cases h011 : w10 = 0
            · rw [if_pos h011] at hF hS hx hle
              rw [if_pos h011]
              cases hx
              refine GW.eqs (st' := []) rfl ?_
              refine g_aload_n C d_N_function_14 rfl ?_
              obtain ⟨ho12, hS⟩ := hS
              refine c_getq C hE.1 (ci := 0) i_N rfl 0 (by decide) (by decide) (by decide) kf_N_10 d_N_function_15 ho12 ?_
              refine g_iload_n C d_N_function_18 rfl ?_
              refine g_iload_n C d_N_function_19 rfl ?_
              refine g_iload_n C d_N_function_20 rfl ?_
              obtain ⟨ho13, hS⟩ := hS
              refine GW.known4 (a := (cQ M a0 0).getD 0) (cOq.at ho13).1 ?_
              obtain ⟨hs14, hS⟩ := hS
              refine c_call (av := [.ref ((cQ M a0 0).getD 0), .int x1, .int x2, .int x3]) (rest := []) C hE (fun _ h => h.elim) ⟨rfl, rfl⟩ hle (cc_Ty_find l hf D cs B dE lim n _ ((cQ M a0 0).getD 0) x1 x2 x3 hs14) (fun _ h => h.elim) kd_Ty_find ki_Ty (Nat.le_of_ble_eq_true rfl) (Nat.le_of_ble_eq_true rfl) d_N_function_21 (Nat.le_of_ble_eq_true rfl) (c_fV (n := 3) (ci := 1) C hE.1 rfl km_N_82 kv_Ty_find kl_Ty_find kd_Ty_find ⟨by decide, by decide, by decide⟩ rfl rfl d_N_function_21 (cOq.at ho13).2) (fun v1 M1 hv hle => ?_) (fun E1 M1 hv hle => ?_)
              · rw [mbind_eq] at hF hS
                obtain ⟨hx, hM1⟩ := hv
                have hM2 := hM1.symm
                subst hM2
                generalize hq_w15 : F_Ty_find cs n M ((cQ M a0 0).getD 0) x1 x2 x3 = w15 at hF hS hx hle ⊢
                cases hx
                refine GW.eqs (st' := [.int w15]) rfl ?_
                refine g_istore (lv' := [(4, .int w15), (0, .ref a0), (1, .int x1), (2, .int x2), (3, .int x3)]) C d_N_function_24 (by decide) rfl ?_
                refine g_iload C d_N_function_26 rfl ?_
                refine g_iconst (v := (-1)) C d_N_function_28 (by decide) ?_
                refine g_icmp_eq C 35 d_N_function_29 (by decide) (fun hc16 => ?_) (fun hc16 => ?_)
                · rw [if_pos hc16] at hF hS
                  refine g_aload_n C d_N_function_35 rfl ?_
                  obtain ⟨ho17, hS⟩ := hS
                  refine c_getq C hE.1 (ci := 0) i_N rfl 0 (by decide) (by decide) (by decide) kf_N_10 d_N_function_36 ho17 ?_
                  obtain ⟨ho18, hS⟩ := hS
                  refine GW.known1 (a := (cQ M a0 0).getD 0) (cOq.at ho18).1 ?_
                  obtain ⟨hs19, hS⟩ := hS
                  refine c_call (av := [.ref ((cQ M a0 0).getD 0)]) (rest := []) C hE (fun _ h => h.elim) ⟨rfl, rfl⟩ hle (cc_Ty_functions l hf D cs B dE lim _ ((cQ M a0 0).getD 0)  hs19) (fun _ h => h.elim) kd_Ty_functions ki_Ty (Nat.le_of_ble_eq_true rfl) (Nat.le_of_ble_eq_true rfl) d_N_function_39 (Nat.le_of_ble_eq_true rfl) (c_fV (n := 0) (ci := 1) C hE.1 rfl km_N_86 kv_Ty_functions kl_Ty_functions kd_Ty_functions ⟨by decide, by decide, by decide⟩ rfl rfl d_N_function_39 (cOq.at ho18).2) (fun v1 M1 hv hle => ?_) (fun E1 M1 hv hle => ?_)
                  · rw [mbind_eq] at hF hS
                    obtain ⟨hx, hM1⟩ := hv
                    have hM2 := hM1.symm
                    subst hM2
                    generalize hq_w20 : F_Ty_functions cs M ((cQ M a0 0).getD 0)  = w20 at hF hS hx hle ⊢
                    cases hx
                    refine GW.eqs (st' := [.int w20]) rfl ?_
                    refine g_bipush (v := 60) C d_N_function_42 (by decide) ?_
                    refine g_icmp_lt C 57 d_N_function_44 (by decide) (fun hc21 => ?_) (fun hc21 => ?_)
                    · rw [if_pos hc21] at hF hS
                      refine g_aload_n C d_N_function_57 rfl ?_
                      obtain ⟨ho22, hS⟩ := hS
                      refine c_getq C hE.1 (ci := 0) i_N rfl 0 (by decide) (by decide) (by decide) kf_N_10 d_N_function_58 ho22 ?_
                      refine g_iload_n C d_N_function_61 rfl ?_
                      refine g_iload_n C d_N_function_62 rfl ?_
                      refine g_iload_n C d_N_function_63 rfl ?_
                      refine GW.more (A' := gA B) (fun _ h => h.elim) ?_
                      obtain ⟨ho23, hS⟩ := hS
                      refine GW.known4 (a := (cQ M a0 0).getD 0) (cOq.at ho23).1 ?_
                      obtain ⟨hs24, hS⟩ := hS
                      refine c_call (av := [.ref ((cQ M a0 0).getD 0), .int x1, .int x2, .int x3]) (rest := []) C hE (fun _ h => h) ⟨rfl, rfl⟩ hle (cc_Ty_numberOf l hf D cs B dE lim n _ ((cQ M a0 0).getD 0) x1 x2 x3 hs24) (fun _ h => h) kd_Ty_numberOf ki_Ty (Nat.le_of_ble_eq_true rfl) (Nat.le_of_ble_eq_true rfl) d_N_function_64 (Nat.le_of_ble_eq_true rfl) (c_fV (n := 3) (ci := 1) C hE.1 rfl km_N_97 kv_Ty_numberOf kl_Ty_numberOf kd_Ty_numberOf ⟨by decide, by decide, by decide⟩ rfl rfl d_N_function_64 (cOq.at ho23).2) (fun v1 M1 hv hle => ?_) (fun E1 M1 hv hle => ?_)
                      · rw [mbind_eq] at hF hS
                        obtain ⟨hx, hM1⟩ := hv
                        have hM2 := hM1.symm
                        subst hM2
                        generalize hq_w25 : F_Ty_numberOf cs n M ((cQ M a0 0).getD 0) x1 x2 x3 = w25 at hF hS hx hle ⊢
                        cases hx
                        refine GW.eqs (st' := [.int w25.1]) rfl ?_
                        exact c_iret (M := w25.2) C hr hlocks hle d_N_function_67 (by rw [← hF]; exact ⟨(if_pos rfl).symm, rfl⟩)
                      · cases hv.1
                    · rw [if_neg hc21] at hF hS
                      obtain ⟨hl26, hS⟩ := hS
                      exact c_throw C hf hex hlocks hR0 hl26 (gAts_of C hE (by decide +kernel) (by decide +kernel) ats_Sx) (gE_st hE kq_N_92) kc_N_90 kn_Sx ki_Sx ⟨rfl, rfl⟩ d_N_function_47 d_N_function_50 d_N_function_51 d_N_function_53 d_N_function_56 (Nat.le_of_ble_eq_true rfl) (Nat.le_of_ble_eq_true rfl) (by rw [← hF]; exact ⟨rfl, rfl⟩)
                  · cases hv.1
                · rw [if_neg hc16] at hF hS
                  refine g_iload C d_N_function_32 rfl ?_
                  refine GW.more (A' := gA B) (fun _ h => h.elim) ?_
                  exact c_iret (M := M) C hr hlocks hle d_N_function_34 (by rw [← hF]; exact ⟨(if_pos rfl).symm, rfl⟩)
              · cases hv.1
            · rw [if_neg h011] at hx
              cases hx
          · rw [mbind_eq] at hF
            obtain ⟨hx, hM1⟩ := hv
            have hM2 := hM1.symm
            subst hM2
            generalize F_N_needRow cs M x3 = w10 at hF hx hle ⊢
            by_cases h011 : w10 = 0
            · rw [if_pos h011] at hx
              cases hx
            · rw [if_neg h011] at hF hx hle
              rw [if_neg h011]
              cases hx
              exact c_tleave (fun _ h => h.elim) hex hlocks hle (by rw [← hF]; exact ⟨by rw [if_neg h011], rfl⟩)
        · rw [if_neg h08] at hx
          cases hx
      · rw [mbind_eq] at hF
        obtain ⟨hx, hM1⟩ := hv
        have hM2 := hM1.symm
        subst hM2
        generalize F_N_needType cs M a0 x2 = w7 at hF hx hle ⊢
        by_cases h08 : w7 = 0
        · rw [if_pos h08] at hx
          cases hx
        · rw [if_neg h08] at hF hx hle
          rw [if_neg h08]
          cases hx
          exact c_tleave (fun _ h => h.elim) hex hlocks hle (by rw [← hF]; exact ⟨by rw [if_neg h08], rfl⟩)
    · rw [if_neg h04] at hx
      cases hx
  · rw [mbind_eq] at hF
    obtain ⟨hx, hM1⟩ := hv
    have hM2 := hM1.symm
    subst hM2
    generalize F_N_needType cs M a0 x1 = w3 at hF hx hle ⊢
    by_cases h04 : w3 = 0
    · rw [if_pos h04] at hx
      cases hx
    · rw [if_neg h04] at hF hx hle
      rw [if_neg h04]
      cases hx
      exact c_tleave (fun _ h => h.elim) hex hlocks hle (by rw [← hF]; exact ⟨by rw [if_neg h04], rfl⟩)
def F_N_needEffect (cs : Nat → ClassId) (M : gMem) (x0 : Int32) : Nat := if x0 < 0 then (1) else (if x0 < 8 then (0) else (1))
def S_N_needEffect (cs : Nat → ClassId) (lim : Nat × Nat) (M : gMem) (x0 : Int32) : Prop := if x0 < 0 then ((M.2.1 + 1 ≤ lim.1 ∧ M.2.2 + 6 ≤ lim.2) ∧ (True)) else (if x0 < 8 then (True) else ((M.2.1 + 1 ≤ lim.1 ∧ M.2.2 + 6 ≤ lim.2) ∧ (True)))
set_option maxRecDepth 100000 in
set_option maxHeartbeats 4000000 in
theorem cc_N_needEffect (l : Launch) (hf : l.flags = pinnedFlags ++ [noTraceFlag]) (D : va_G) (cs : Nat → ClassId) (B : Nat) (dE : Nat × Nat) (lim : Nat × Nat) (M : gMem) (x0 : Int32) (hS : S_N_needEffect cs lim M x0) : cMet l y_N_needEffect (Cond.code y_N_needEffect c_N_needEffect 1 none) (6) (100) D cs B dE (fun _ => False) lim [.int x0] M (fun x M' => x = (if (F_N_needEffect cs M x0) = 0 then .inl none else .inr (exn (F_N_needEffect cs M x0))) ∧ M' = if (F_N_needEffect cs M x0) = 0 then M else gsk M) := by
  refine cMet.ofW (by decide) (Nat.le_of_ble_eq_true rfl) (lv0 := [(0, .int x0)]) rfl ?_
  intro p e s m args below meth c C hE hR0 hle hr hlocks hex hn
  generalize hF : F_N_needEffect cs M x0 = Fv
  unfold F_N_needEffect at hF
  unfold S_N_needEffect at hS
  refine g_iload_n C d_N_needEffect_0 rfl ?_
  refine g_if_lt C 10 d_N_needEffect_1 (by decide) (fun hc1 => ?_) (fun hc1 => ?_)
  · rw [if_pos hc1] at hF hS
    obtain ⟨hl2, hS⟩ := hS
    exact c_throwW C hf hex hlocks hR0 hl2 (gAts_of C hE (by decide +kernel) (by decide +kernel) ats_Ix) (gE_st hE kq_N_274) kc_N_103 kn_Ix ki_Ix ⟨rfl, rfl⟩ d_N_needEffect_10 d_N_needEffect_13 d_N_needEffect_14 d_N_needEffect_17 d_N_needEffect_20 (Nat.le_of_ble_eq_true rfl) (Nat.le_of_ble_eq_true rfl) (by rw [← hF]; exact ⟨rfl, rfl⟩)
  · rw [if_neg hc1] at hF hS
    refine g_iload_n C d_N_needEffect_4 rfl ?_
    refine g_bipush (v := 8) C d_N_needEffect_5 (by decide) ?_
    refine g_icmp_lt C 21 d_N_needEffect_7 (by decide) (fun hc3 => ?_) (fun hc3 => ?_)
    · rw [if_pos hc3] at hF hS
      exact c_vret (M := M) C hr hlocks hle d_N_needEffect_21 (by rw [← hF]; exact ⟨(if_pos rfl).symm, (if_pos rfl).symm⟩)
    · rw [if_neg hc3] at hF hS
      obtain ⟨hl4, hS⟩ := hS
      exact c_throwW C hf hex hlocks hR0 hl4 (gAts_of C hE (by decide +kernel) (by decide +kernel) ats_Ix) (gE_st hE kq_N_274) kc_N_103 kn_Ix ki_Ix ⟨rfl, rfl⟩ d_N_needEffect_10 d_N_needEffect_13 d_N_needEffect_14 d_N_needEffect_17 d_N_needEffect_20 (Nat.le_of_ble_eq_true rfl) (Nat.le_of_ble_eq_true rfl) (by rw [← hF]; exact ⟨rfl, rfl⟩)
def F_N_effect (cs : Nat → ClassId) (M : gMem) (a0 : Nat) (x1 : Int32) (x2 : Int32) (x3 : Int32) : Nat × gMem := mbind (F_N_needEffect cs M x1) (fun w2 => if w2 = 0 then (mbind (F_N_needType cs M a0 x2) (fun w6 => if w6 = 0 then (mbind (F_N_needType cs M a0 x3) (fun w10 => if w10 = 0 then ((0, aPi (cs 0) (aPi (cs 0) M ((cQ M a0 2).getD 0) x1.toNatClampNeg x2) ((cQ (aPi (cs 0) M ((cQ M a0 2).getD 0) x1.toNatClampNeg x2) a0 3).getD 0) x1.toNatClampNeg x3)) else ((w10, gsk M)))) else ((w6, gsk M)))) else ((w2, gsk M)))
def S_N_effect (cs : Nat → ClassId) (lim : Nat × Nat) (M : gMem) (a0 : Nat) (x1 : Int32) (x2 : Int32) (x3 : Int32) : Prop := (S_N_needEffect cs lim M x1) ∧ (mbind (F_N_needEffect cs M x1) (fun w2 => if w2 = 0 then ((cOk 0 M a0) ∧ ((S_N_needType cs lim M a0 x2) ∧ (mbind (F_N_needType cs M a0 x2) (fun w6 => if w6 = 0 then ((cOk 0 M a0) ∧ ((S_N_needType cs lim M a0 x3) ∧ (mbind (F_N_needType cs M a0 x3) (fun w10 => if w10 = 0 then ((cOk 0 M a0) ∧ ((cQ M a0 2 = some ((cQ M a0 2).getD 0) ∧ aIk (cs 0) M ((cQ M a0 2).getD 0)) ∧ ((vp_in x1 (aL M ((cQ M a0 2).getD 0))) ∧ ((cOk 0 (aPi (cs 0) M ((cQ M a0 2).getD 0) x1.toNatClampNeg x2) a0) ∧ ((cQ (aPi (cs 0) M ((cQ M a0 2).getD 0) x1.toNatClampNeg x2) a0 3 = some ((cQ (aPi (cs 0) M ((cQ M a0 2).getD 0) x1.toNatClampNeg x2) a0 3).getD 0) ∧ aIk (cs 0) (aPi (cs 0) M ((cQ M a0 2).getD 0) x1.toNatClampNeg x2) ((cQ (aPi (cs 0) M ((cQ M a0 2).getD 0) x1.toNatClampNeg x2) a0 3).getD 0)) ∧ ((vp_in x1 (aL (aPi (cs 0) M ((cQ M a0 2).getD 0) x1.toNatClampNeg x2) ((cQ (aPi (cs 0) M ((cQ M a0 2).getD 0) x1.toNatClampNeg x2) a0 3).getD 0))) ∧ (True))))))) else (True))))) else (True))))) else (True)))
set_option maxRecDepth 100000 in
set_option maxHeartbeats 4000000 in
theorem cc_N_effect (l : Launch) (hf : l.flags = pinnedFlags ++ [noTraceFlag]) (D : va_G) (cs : Nat → ClassId) (B : Nat) (dE : Nat × Nat) (lim : Nat × Nat) (M : gMem) (a0 : Nat) (x1 : Int32) (x2 : Int32) (x3 : Int32) (hS : S_N_effect cs lim M a0 x1 x2 x3) : cMet l y_N_effect (Cond.code y_N_effect c_N_effect 4 none) (7) (121) D cs B dE (gA B) lim [.ref a0, .int x1, .int x2, .int x3] M (fun x M' => x = (if (F_N_effect cs M a0 x1 x2 x3).1 = 0 then .inl none else .inr (exn (F_N_effect cs M a0 x1 x2 x3).1)) ∧ M' = (F_N_effect cs M a0 x1 x2 x3).2) := by
  refine cMet.ofW (by decide) (Nat.le_of_ble_eq_true rfl) (lv0 := [(0, .ref a0), (1, .int x1), (2, .int x2), (3, .int x3)]) rfl ?_
  intro p e s m args below meth c C hE hR0 hle hr hlocks hex hn
  generalize hF : F_N_effect cs M a0 x1 x2 x3 = Fv
  unfold F_N_effect at hF
  unfold S_N_effect at hS
  refine g_iload_n C d_N_effect_0 rfl ?_
  obtain ⟨hs1, hS⟩ := hS
  refine c_call (av := [.int x1]) (rest := []) C hE (fun _ h => h.elim) ⟨rfl, rfl⟩ hle (cc_N_needEffect l hf D cs B dE lim _ x1 hs1) (fun _ h => h.elim) kd_N_needEffect ki_N (Nat.le_of_ble_eq_true rfl) (Nat.le_of_ble_eq_true rfl) d_N_effect_1 (Nat.le_of_ble_eq_true rfl) (c_fS (n := 1) C km_N_100 ks_N_needEffect ki_N kd_N_needEffect ⟨by decide, by decide, by decide⟩ rfl rfl d_N_effect_1) (fun v1 M1 hv hle => ?_) (fun E1 M1 hv hle => ?_)
  · rw [mbind_eq] at hF hS
    obtain ⟨hx, hM1⟩ := hv
    have hM2 := hM1.symm
    subst hM2
    generalize hq_w2 : F_N_needEffect cs M x1 = w2 at hF hS hx hle ⊢
    by_cases h03 : w2 = 0
    · rw [if_pos h03] at hF hS hx hle
      rw [if_pos h03]
      cases hx
      refine GW.eqs (st' := []) rfl ?_
      refine g_aload_n C d_N_effect_4 rfl ?_
      refine g_iload_n C d_N_effect_5 rfl ?_
      obtain ⟨ho4, hS⟩ := hS
      obtain ⟨hs5, hS⟩ := hS
      refine c_call (av := [.ref a0, .int x2]) (rest := []) C hE (fun _ h => h.elim) ⟨rfl, rfl⟩ hle (cc_N_needType l hf D cs B dE lim _ a0 x2 hs5) (fun _ h => h.elim) kd_N_needType ki_N (Nat.le_of_ble_eq_true rfl) (Nat.le_of_ble_eq_true rfl) d_N_effect_6 (Nat.le_of_ble_eq_true rfl) (c_fV (n := 1) (ci := 0) C hE.1 rfl km_N_76 kv_N_needType kl_N_needType kd_N_needType ⟨by decide, by decide, by decide⟩ rfl rfl d_N_effect_6 ho4) (fun v1 M1 hv hle => ?_) (fun E1 M1 hv hle => ?_)
      · rw [mbind_eq] at hF hS
        obtain ⟨hx, hM1⟩ := hv
        have hM2 := hM1.symm
        subst hM2
        generalize hq_w6 : F_N_needType cs M a0 x2 = w6 at hF hS hx hle ⊢
        by_cases h07 : w6 = 0
        · rw [if_pos h07] at hF hS hx hle
          rw [if_pos h07]
          cases hx
          refine GW.eqs (st' := []) rfl ?_
          refine g_aload_n C d_N_effect_9 rfl ?_
          refine g_iload_n C d_N_effect_10 rfl ?_
          obtain ⟨ho8, hS⟩ := hS
          obtain ⟨hs9, hS⟩ := hS
          refine c_call (av := [.ref a0, .int x3]) (rest := []) C hE (fun _ h => h.elim) ⟨rfl, rfl⟩ hle (cc_N_needType l hf D cs B dE lim _ a0 x3 hs9) (fun _ h => h.elim) kd_N_needType ki_N (Nat.le_of_ble_eq_true rfl) (Nat.le_of_ble_eq_true rfl) d_N_effect_11 (Nat.le_of_ble_eq_true rfl) (c_fV (n := 1) (ci := 0) C hE.1 rfl km_N_76 kv_N_needType kl_N_needType kd_N_needType ⟨by decide, by decide, by decide⟩ rfl rfl d_N_effect_11 ho8) (fun v1 M1 hv hle => ?_) (fun E1 M1 hv hle => ?_)
          · rw [mbind_eq] at hF hS
            obtain ⟨hx, hM1⟩ := hv
            have hM2 := hM1.symm
            subst hM2
            generalize hq_w10 : F_N_needType cs M a0 x3 = w10 at hF hS hx hle ⊢
            by_cases h011 : w10 = 0
            · rw [if_pos h011] at hF hS hx hle
              rw [if_pos h011]
              cases hx
              refine GW.eqs (st' := []) rfl ?_
              refine g_aload_n C d_N_effect_14 rfl ?_
              obtain ⟨ho12, hS⟩ := hS
              refine c_getq C hE.1 (ci := 0) i_N rfl 2 (by decide) (by decide) (by decide) kf_N_23 d_N_effect_15 ho12 ?_
              refine g_iload_n C d_N_effect_18 rfl ?_
              refine g_iload_n C d_N_effect_19 rfl ?_
              refine GW.more (A' := gA B) (fun _ h => h.elim) ?_
              obtain ⟨ha13, hS⟩ := hS
              refine GW.known3 (a := (cQ M a0 2).getD 0) ha13.1 ?_
              obtain ⟨hi14, hS⟩ := hS
              refine k_iast (M0 := M) (M := M) C hE.1 d_N_effect_20 ha13.2 hi14 ?_
              replace hle := cLe.aPi (cA := cs 0) (a := (cQ M a0 2).getD 0) (i := x1.toNatClampNeg) (x := x2) hle
              refine g_aload_n C d_N_effect_21 rfl ?_
              obtain ⟨ho15, hS⟩ := hS
              refine c_getq C hE.1 (ci := 0) i_N rfl 3 (by decide) (by decide) (by decide) kf_N_27 d_N_effect_22 ho15 ?_
              refine g_iload_n C d_N_effect_25 rfl ?_
              refine g_iload_n C d_N_effect_26 rfl ?_
              obtain ⟨ha16, hS⟩ := hS
              refine GW.known3 (a := (cQ (aPi (cs 0) M ((cQ M a0 2).getD 0) x1.toNatClampNeg x2) a0 3).getD 0) ha16.1 ?_
              obtain ⟨hi17, hS⟩ := hS
              refine k_iast (M0 := M) (M := aPi (cs 0) M ((cQ M a0 2).getD 0) x1.toNatClampNeg x2) C hE.1 d_N_effect_27 ha16.2 hi17 ?_
              replace hle := cLe.aPi (cA := cs 0) (a := (cQ (aPi (cs 0) M ((cQ M a0 2).getD 0) x1.toNatClampNeg x2) a0 3).getD 0) (i := x1.toNatClampNeg) (x := x3) hle
              exact c_vret (M := aPi (cs 0) (aPi (cs 0) M ((cQ M a0 2).getD 0) x1.toNatClampNeg x2) ((cQ (aPi (cs 0) M ((cQ M a0 2).getD 0) x1.toNatClampNeg x2) a0 3).getD 0) x1.toNatClampNeg x3) C hr hlocks hle d_N_effect_28 (by rw [← hF]; exact ⟨(if_pos rfl).symm, rfl⟩)
            · rw [if_neg h011] at hx
              cases hx
          · rw [mbind_eq] at hF
            obtain ⟨hx, hM1⟩ := hv
            have hM2 := hM1.symm
            subst hM2
            generalize F_N_needType cs M a0 x3 = w10 at hF hx hle ⊢
            by_cases h011 : w10 = 0
            · rw [if_pos h011] at hx
              cases hx
            · rw [if_neg h011] at hF hx hle
              rw [if_neg h011]
              cases hx
              exact c_tleave (fun _ h => h.elim) hex hlocks hle (by rw [← hF]; exact ⟨by rw [if_neg h011], rfl⟩)
        · rw [if_neg h07] at hx
          cases hx
      · rw [mbind_eq] at hF
        obtain ⟨hx, hM1⟩ := hv
        have hM2 := hM1.symm
        subst hM2
        generalize F_N_needType cs M a0 x2 = w6 at hF hx hle ⊢
        by_cases h07 : w6 = 0
        · rw [if_pos h07] at hx
          cases hx
        · rw [if_neg h07] at hF hx hle
          rw [if_neg h07]
          cases hx
          exact c_tleave (fun _ h => h.elim) hex hlocks hle (by rw [← hF]; exact ⟨by rw [if_neg h07], rfl⟩)
    · rw [if_neg h03] at hx
      cases hx
  · rw [mbind_eq] at hF
    obtain ⟨hx, hM1⟩ := hv
    have hM2 := hM1.symm
    subst hM2
    generalize F_N_needEffect cs M x1 = w2 at hF hx hle ⊢
    by_cases h03 : w2 = 0
    · rw [if_pos h03] at hx
      cases hx
    · rw [if_neg h03] at hF hx hle
      rw [if_neg h03]
      cases hx
      exact c_tleave (fun _ h => h.elim) hex hlocks hle (by rw [← hF]; exact ⟨by rw [if_neg h03], rfl⟩)
def F_N_needName (cs : Nat → ClassId) (M : gMem) (x0 : Int32) : Nat := if x0 < 0 then (1) else (if x0 < 10 then (0) else (1))
def S_N_needName (cs : Nat → ClassId) (lim : Nat × Nat) (M : gMem) (x0 : Int32) : Prop := if x0 < 0 then ((M.2.1 + 1 ≤ lim.1 ∧ M.2.2 + 6 ≤ lim.2) ∧ (True)) else (if x0 < 10 then (True) else ((M.2.1 + 1 ≤ lim.1 ∧ M.2.2 + 6 ≤ lim.2) ∧ (True)))
set_option maxRecDepth 100000 in
set_option maxHeartbeats 4000000 in
theorem cc_N_needName (l : Launch) (hf : l.flags = pinnedFlags ++ [noTraceFlag]) (D : va_G) (cs : Nat → ClassId) (B : Nat) (dE : Nat × Nat) (lim : Nat × Nat) (M : gMem) (x0 : Int32) (hS : S_N_needName cs lim M x0) : cMet l y_N_needName (Cond.code y_N_needName c_N_needName 1 none) (6) (100) D cs B dE (fun _ => False) lim [.int x0] M (fun x M' => x = (if (F_N_needName cs M x0) = 0 then .inl none else .inr (exn (F_N_needName cs M x0))) ∧ M' = if (F_N_needName cs M x0) = 0 then M else gsk M) := by
  refine cMet.ofW (by decide) (Nat.le_of_ble_eq_true rfl) (lv0 := [(0, .int x0)]) rfl ?_
  intro p e s m args below meth c C hE hR0 hle hr hlocks hex hn
  generalize hF : F_N_needName cs M x0 = Fv
  unfold F_N_needName at hF
  unfold S_N_needName at hS
  refine g_iload_n C d_N_needName_0 rfl ?_
  refine g_if_lt C 10 d_N_needName_1 (by decide) (fun hc1 => ?_) (fun hc1 => ?_)
  · rw [if_pos hc1] at hF hS
    obtain ⟨hl2, hS⟩ := hS
    exact c_throwW C hf hex hlocks hR0 hl2 (gAts_of C hE (by decide +kernel) (by decide +kernel) ats_Ix) (gE_st hE kq_N_272) kc_N_103 kn_Ix ki_Ix ⟨rfl, rfl⟩ d_N_needName_10 d_N_needName_13 d_N_needName_14 d_N_needName_17 d_N_needName_20 (Nat.le_of_ble_eq_true rfl) (Nat.le_of_ble_eq_true rfl) (by rw [← hF]; exact ⟨rfl, rfl⟩)
  · rw [if_neg hc1] at hF hS
    refine g_iload_n C d_N_needName_4 rfl ?_
    refine g_bipush (v := 10) C d_N_needName_5 (by decide) ?_
    refine g_icmp_lt C 21 d_N_needName_7 (by decide) (fun hc3 => ?_) (fun hc3 => ?_)
    · rw [if_pos hc3] at hF hS
      exact c_vret (M := M) C hr hlocks hle d_N_needName_21 (by rw [← hF]; exact ⟨(if_pos rfl).symm, (if_pos rfl).symm⟩)
    · rw [if_neg hc3] at hF hS
      obtain ⟨hl4, hS⟩ := hS
      exact c_throwW C hf hex hlocks hR0 hl4 (gAts_of C hE (by decide +kernel) (by decide +kernel) ats_Ix) (gE_st hE kq_N_272) kc_N_103 kn_Ix ki_Ix ⟨rfl, rfl⟩ d_N_needName_10 d_N_needName_13 d_N_needName_14 d_N_needName_17 d_N_needName_20 (Nat.le_of_ble_eq_true rfl) (Nat.le_of_ble_eq_true rfl) (by rw [← hF]; exact ⟨rfl, rfl⟩)
def F_N_needRoom (cs : Nat → ClassId) (M : gMem) (a0 : Nat) : Nat := mbind (F_Ns_hasRoom cs M ((cQ M a0 1).getD 0) ) (fun w4 => if w4 = 0 then (2) else (0))
def S_N_needRoom (cs : Nat → ClassId) (lim : Nat × Nat) (M : gMem) (a0 : Nat) : Prop := (cOk 0 M a0) ∧ ((cOq 3 M (cQ M a0 1)) ∧ ((S_Ns_hasRoom cs lim M ((cQ M a0 1).getD 0) ) ∧ (mbind (F_Ns_hasRoom cs M ((cQ M a0 1).getD 0) ) (fun w4 => if w4 = 0 then ((M.2.1 + 1 ≤ lim.1 ∧ M.2.2 + 6 ≤ lim.2) ∧ (True)) else (True)))))
set_option maxRecDepth 100000 in
set_option maxHeartbeats 4000000 in
theorem cc_N_needRoom (l : Launch) (hf : l.flags = pinnedFlags ++ [noTraceFlag]) (D : va_G) (cs : Nat → ClassId) (B : Nat) (dE : Nat × Nat) (lim : Nat × Nat) (M : gMem) (a0 : Nat) (hS : S_N_needRoom cs lim M a0) : cMet l y_N_needRoom (Cond.code y_N_needRoom c_N_needRoom 1 none) (6) (100) D cs B dE (fun _ => False) lim [.ref a0] M (fun x M' => x = (if (F_N_needRoom cs M a0) = 0 then .inl none else .inr (exn (F_N_needRoom cs M a0))) ∧ M' = if (F_N_needRoom cs M a0) = 0 then M else gsk M) := by
  refine cMet.ofW (by decide) (Nat.le_of_ble_eq_true rfl) (lv0 := [(0, .ref a0)]) rfl ?_
  intro p e s m args below meth c C hE hR0 hle hr hlocks hex hn
  generalize hF : F_N_needRoom cs M a0 = Fv
  unfold F_N_needRoom at hF
  unfold S_N_needRoom at hS
  refine g_aload_n C d_N_needRoom_0 rfl ?_
  obtain ⟨ho1, hS⟩ := hS
  refine c_getq C hE.1 (ci := 0) i_N rfl 1 (by decide) (by decide) (by decide) kf_N_19 d_N_needRoom_1 ho1 ?_
  obtain ⟨ho2, hS⟩ := hS
  refine GW.known1 (a := (cQ M a0 1).getD 0) (cOq.at ho2).1 ?_
  obtain ⟨hs3, hS⟩ := hS
  refine c_call (av := [.ref ((cQ M a0 1).getD 0)]) (rest := []) C hE (fun _ h => h.elim) ⟨rfl, rfl⟩ hle (cc_Ns_hasRoom l hf D cs B dE lim _ ((cQ M a0 1).getD 0)  hs3) (fun _ h => h.elim) kd_Ns_hasRoom ki_Ns (Nat.le_of_ble_eq_true rfl) (Nat.le_of_ble_eq_true rfl) d_N_needRoom_4 (Nat.le_of_ble_eq_true rfl) (c_fV (n := 0) (ci := 3) C hE.1 rfl km_N_265 kv_Ns_hasRoom kl_Ns_hasRoom kd_Ns_hasRoom ⟨by decide, by decide, by decide⟩ rfl rfl d_N_needRoom_4 (cOq.at ho2).2) (fun v1 M1 hv hle => ?_) (fun E1 M1 hv hle => ?_)
  · rw [mbind_eq] at hF hS
    obtain ⟨hx, hM1⟩ := hv
    have hM2 := hM1.symm
    subst hM2
    generalize hq_w4 : F_Ns_hasRoom cs M ((cQ M a0 1).getD 0)  = w4 at hF hS hx hle ⊢
    cases hx
    refine GW.eqs (st' := [.int w4]) rfl ?_
    refine g_if_ne C 21 d_N_needRoom_7 (by decide) (fun hc5 => ?_) (fun hc5 => ?_)
    · rw [if_neg hc5] at hF hS
      exact c_vret (M := M) C hr hlocks hle d_N_needRoom_21 (by rw [← hF]; exact ⟨(if_pos rfl).symm, (if_pos rfl).symm⟩)
    · rw [if_pos hc5] at hF hS
      obtain ⟨hl6, hS⟩ := hS
      exact c_throwW C hf hex hlocks hR0 hl6 (gAts_of C hE (by decide +kernel) (by decide +kernel) ats_Sx) (gE_st hE kq_N_268) kc_N_90 kn_Sx ki_Sx ⟨rfl, rfl⟩ d_N_needRoom_10 d_N_needRoom_13 d_N_needRoom_14 d_N_needRoom_17 d_N_needRoom_20 (Nat.le_of_ble_eq_true rfl) (Nat.le_of_ble_eq_true rfl) (by rw [← hF]; exact ⟨rfl, rfl⟩)
  · cases hv.1
def F_N_atom (cs : Nat → ClassId) (n : Nat) (M : gMem) (a0 : Nat) (x1 : Int32) (x2 : Int32) : Nat × Int32 × gMem := if x1 < 0 then ((1, 0, gsk M)) else (if x1 ≤ 3 then (if x1 = 1 then (if x2 = 0 then (if x1 = 3 then (mbind (F_N_needName cs M x2) (fun w66 => if w66 = 0 then (mbind (F_N_needRoom cs M a0 ) (fun w70 => if w70 = 0 then (mbind (F_No_init cs (gnw M (1, .inr (4, [.int 0, .int 0, .int 0, .int 0, .int 0, .int 0, .int 0, .int 0, .int 0, .int 0, .int 0])) 11) M.2.1 x1) (fun w74 => if x1 = 2 then (mbind (F_Ns_add cs n (cP 4 w74 M.2.1 1 (.int 0)) ((cQ (cP 4 w74 M.2.1 1 (.int 0)) a0 1).getD 0) (some M.2.1)) (fun w85 => (0, w85.1, w85.2))) else (mbind (F_Ns_add cs n (cP 4 w74 M.2.1 1 (.int x2)) ((cQ (cP 4 w74 M.2.1 1 (.int x2)) a0 1).getD 0) (some M.2.1)) (fun w80 => (0, w80.1, w80.2))))) else ((w70, 0, gsk M)))) else ((w66, 0, gsk M)))) else (mbind (F_N_needRoom cs M a0 ) (fun w49 => if w49 = 0 then (mbind (F_No_init cs (gnw M (1, .inr (4, [.int 0, .int 0, .int 0, .int 0, .int 0, .int 0, .int 0, .int 0, .int 0, .int 0, .int 0])) 11) M.2.1 x1) (fun w53 => if x1 = 2 then (mbind (F_Ns_add cs n (cP 4 w53 M.2.1 1 (.int 0)) ((cQ (cP 4 w53 M.2.1 1 (.int 0)) a0 1).getD 0) (some M.2.1)) (fun w64 => (0, w64.1, w64.2))) else (mbind (F_Ns_add cs n (cP 4 w53 M.2.1 1 (.int x2)) ((cQ (cP 4 w53 M.2.1 1 (.int x2)) a0 1).getD 0) (some M.2.1)) (fun w59 => (0, w59.1, w59.2))))) else ((w49, 0, gsk M))))) else (if x2 = 1 then (if x1 = 3 then (mbind (F_N_needName cs M x2) (fun w107 => if w107 = 0 then (mbind (F_N_needRoom cs M a0 ) (fun w111 => if w111 = 0 then (mbind (F_No_init cs (gnw M (1, .inr (4, [.int 0, .int 0, .int 0, .int 0, .int 0, .int 0, .int 0, .int 0, .int 0, .int 0, .int 0])) 11) M.2.1 x1) (fun w115 => if x1 = 2 then (mbind (F_Ns_add cs n (cP 4 w115 M.2.1 1 (.int 0)) ((cQ (cP 4 w115 M.2.1 1 (.int 0)) a0 1).getD 0) (some M.2.1)) (fun w126 => (0, w126.1, w126.2))) else (mbind (F_Ns_add cs n (cP 4 w115 M.2.1 1 (.int x2)) ((cQ (cP 4 w115 M.2.1 1 (.int x2)) a0 1).getD 0) (some M.2.1)) (fun w121 => (0, w121.1, w121.2))))) else ((w111, 0, gsk M)))) else ((w107, 0, gsk M)))) else (mbind (F_N_needRoom cs M a0 ) (fun w90 => if w90 = 0 then (mbind (F_No_init cs (gnw M (1, .inr (4, [.int 0, .int 0, .int 0, .int 0, .int 0, .int 0, .int 0, .int 0, .int 0, .int 0, .int 0])) 11) M.2.1 x1) (fun w94 => if x1 = 2 then (mbind (F_Ns_add cs n (cP 4 w94 M.2.1 1 (.int 0)) ((cQ (cP 4 w94 M.2.1 1 (.int 0)) a0 1).getD 0) (some M.2.1)) (fun w105 => (0, w105.1, w105.2))) else (mbind (F_Ns_add cs n (cP 4 w94 M.2.1 1 (.int x2)) ((cQ (cP 4 w94 M.2.1 1 (.int x2)) a0 1).getD 0) (some M.2.1)) (fun w100 => (0, w100.1, w100.2))))) else ((w90, 0, gsk M))))) else ((1, 0, gsk M)))) else (if x1 = 3 then (mbind (F_N_needName cs M x2) (fun w25 => if w25 = 0 then (mbind (F_N_needRoom cs M a0 ) (fun w29 => if w29 = 0 then (mbind (F_No_init cs (gnw M (1, .inr (4, [.int 0, .int 0, .int 0, .int 0, .int 0, .int 0, .int 0, .int 0, .int 0, .int 0, .int 0])) 11) M.2.1 x1) (fun w33 => if x1 = 2 then (mbind (F_Ns_add cs n (cP 4 w33 M.2.1 1 (.int 0)) ((cQ (cP 4 w33 M.2.1 1 (.int 0)) a0 1).getD 0) (some M.2.1)) (fun w44 => (0, w44.1, w44.2))) else (mbind (F_Ns_add cs n (cP 4 w33 M.2.1 1 (.int x2)) ((cQ (cP 4 w33 M.2.1 1 (.int x2)) a0 1).getD 0) (some M.2.1)) (fun w39 => (0, w39.1, w39.2))))) else ((w29, 0, gsk M)))) else ((w25, 0, gsk M)))) else (mbind (F_N_needRoom cs M a0 ) (fun w8 => if w8 = 0 then (mbind (F_No_init cs (gnw M (1, .inr (4, [.int 0, .int 0, .int 0, .int 0, .int 0, .int 0, .int 0, .int 0, .int 0, .int 0, .int 0])) 11) M.2.1 x1) (fun w12 => if x1 = 2 then (mbind (F_Ns_add cs n (cP 4 w12 M.2.1 1 (.int 0)) ((cQ (cP 4 w12 M.2.1 1 (.int 0)) a0 1).getD 0) (some M.2.1)) (fun w23 => (0, w23.1, w23.2))) else (mbind (F_Ns_add cs n (cP 4 w12 M.2.1 1 (.int x2)) ((cQ (cP 4 w12 M.2.1 1 (.int x2)) a0 1).getD 0) (some M.2.1)) (fun w18 => (0, w18.1, w18.2))))) else ((w8, 0, gsk M)))))) else ((1, 0, gsk M)))
def S_N_atom (cs : Nat → ClassId) (lim : Nat × Nat) (n : Nat) (M : gMem) (a0 : Nat) (x1 : Int32) (x2 : Int32) : Prop := if x1 < 0 then ((M.2.1 + 1 ≤ lim.1 ∧ M.2.2 + 6 ≤ lim.2) ∧ (True)) else (if x1 ≤ 3 then (if x1 = 1 then (if x2 = 0 then (if x1 = 3 then ((S_N_needName cs lim M x2) ∧ (mbind (F_N_needName cs M x2) (fun w66 => if w66 = 0 then ((cOk 0 M a0) ∧ ((S_N_needRoom cs lim M a0 ) ∧ (mbind (F_N_needRoom cs M a0 ) (fun w70 => if w70 = 0 then ((M.2.1 + 1 ≤ lim.1 ∧ M.2.2 + 11 ≤ lim.2) ∧ ((S_No_init cs lim (gnw M (1, .inr (4, [.int 0, .int 0, .int 0, .int 0, .int 0, .int 0, .int 0, .int 0, .int 0, .int 0, .int 0])) 11) M.2.1 x1) ∧ (mbind (F_No_init cs (gnw M (1, .inr (4, [.int 0, .int 0, .int 0, .int 0, .int 0, .int 0, .int 0, .int 0, .int 0, .int 0, .int 0])) 11) M.2.1 x1) (fun w74 => if x1 = 2 then ((cOk 4 w74 M.2.1) ∧ ((cOk 0 (cP 4 w74 M.2.1 1 (.int 0)) a0) ∧ ((cOq 3 (cP 4 w74 M.2.1 1 (.int 0)) (cQ (cP 4 w74 M.2.1 1 (.int 0)) a0 1)) ∧ ((S_Ns_add cs lim n (cP 4 w74 M.2.1 1 (.int 0)) ((cQ (cP 4 w74 M.2.1 1 (.int 0)) a0 1).getD 0) (some M.2.1)) ∧ (mbind (F_Ns_add cs n (cP 4 w74 M.2.1 1 (.int 0)) ((cQ (cP 4 w74 M.2.1 1 (.int 0)) a0 1).getD 0) (some M.2.1)) (fun w85 => True)))))) else ((cOk 4 w74 M.2.1) ∧ ((cOk 0 (cP 4 w74 M.2.1 1 (.int x2)) a0) ∧ ((cOq 3 (cP 4 w74 M.2.1 1 (.int x2)) (cQ (cP 4 w74 M.2.1 1 (.int x2)) a0 1)) ∧ ((S_Ns_add cs lim n (cP 4 w74 M.2.1 1 (.int x2)) ((cQ (cP 4 w74 M.2.1 1 (.int x2)) a0 1).getD 0) (some M.2.1)) ∧ (mbind (F_Ns_add cs n (cP 4 w74 M.2.1 1 (.int x2)) ((cQ (cP 4 w74 M.2.1 1 (.int x2)) a0 1).getD 0) (some M.2.1)) (fun w80 => True)))))))))) else (True))))) else (True)))) else ((cOk 0 M a0) ∧ ((S_N_needRoom cs lim M a0 ) ∧ (mbind (F_N_needRoom cs M a0 ) (fun w49 => if w49 = 0 then ((M.2.1 + 1 ≤ lim.1 ∧ M.2.2 + 11 ≤ lim.2) ∧ ((S_No_init cs lim (gnw M (1, .inr (4, [.int 0, .int 0, .int 0, .int 0, .int 0, .int 0, .int 0, .int 0, .int 0, .int 0, .int 0])) 11) M.2.1 x1) ∧ (mbind (F_No_init cs (gnw M (1, .inr (4, [.int 0, .int 0, .int 0, .int 0, .int 0, .int 0, .int 0, .int 0, .int 0, .int 0, .int 0])) 11) M.2.1 x1) (fun w53 => if x1 = 2 then ((cOk 4 w53 M.2.1) ∧ ((cOk 0 (cP 4 w53 M.2.1 1 (.int 0)) a0) ∧ ((cOq 3 (cP 4 w53 M.2.1 1 (.int 0)) (cQ (cP 4 w53 M.2.1 1 (.int 0)) a0 1)) ∧ ((S_Ns_add cs lim n (cP 4 w53 M.2.1 1 (.int 0)) ((cQ (cP 4 w53 M.2.1 1 (.int 0)) a0 1).getD 0) (some M.2.1)) ∧ (mbind (F_Ns_add cs n (cP 4 w53 M.2.1 1 (.int 0)) ((cQ (cP 4 w53 M.2.1 1 (.int 0)) a0 1).getD 0) (some M.2.1)) (fun w64 => True)))))) else ((cOk 4 w53 M.2.1) ∧ ((cOk 0 (cP 4 w53 M.2.1 1 (.int x2)) a0) ∧ ((cOq 3 (cP 4 w53 M.2.1 1 (.int x2)) (cQ (cP 4 w53 M.2.1 1 (.int x2)) a0 1)) ∧ ((S_Ns_add cs lim n (cP 4 w53 M.2.1 1 (.int x2)) ((cQ (cP 4 w53 M.2.1 1 (.int x2)) a0 1).getD 0) (some M.2.1)) ∧ (mbind (F_Ns_add cs n (cP 4 w53 M.2.1 1 (.int x2)) ((cQ (cP 4 w53 M.2.1 1 (.int x2)) a0 1).getD 0) (some M.2.1)) (fun w59 => True)))))))))) else (True)))))) else (if x2 = 1 then (if x1 = 3 then ((S_N_needName cs lim M x2) ∧ (mbind (F_N_needName cs M x2) (fun w107 => if w107 = 0 then ((cOk 0 M a0) ∧ ((S_N_needRoom cs lim M a0 ) ∧ (mbind (F_N_needRoom cs M a0 ) (fun w111 => if w111 = 0 then ((M.2.1 + 1 ≤ lim.1 ∧ M.2.2 + 11 ≤ lim.2) ∧ ((S_No_init cs lim (gnw M (1, .inr (4, [.int 0, .int 0, .int 0, .int 0, .int 0, .int 0, .int 0, .int 0, .int 0, .int 0, .int 0])) 11) M.2.1 x1) ∧ (mbind (F_No_init cs (gnw M (1, .inr (4, [.int 0, .int 0, .int 0, .int 0, .int 0, .int 0, .int 0, .int 0, .int 0, .int 0, .int 0])) 11) M.2.1 x1) (fun w115 => if x1 = 2 then ((cOk 4 w115 M.2.1) ∧ ((cOk 0 (cP 4 w115 M.2.1 1 (.int 0)) a0) ∧ ((cOq 3 (cP 4 w115 M.2.1 1 (.int 0)) (cQ (cP 4 w115 M.2.1 1 (.int 0)) a0 1)) ∧ ((S_Ns_add cs lim n (cP 4 w115 M.2.1 1 (.int 0)) ((cQ (cP 4 w115 M.2.1 1 (.int 0)) a0 1).getD 0) (some M.2.1)) ∧ (mbind (F_Ns_add cs n (cP 4 w115 M.2.1 1 (.int 0)) ((cQ (cP 4 w115 M.2.1 1 (.int 0)) a0 1).getD 0) (some M.2.1)) (fun w126 => True)))))) else ((cOk 4 w115 M.2.1) ∧ ((cOk 0 (cP 4 w115 M.2.1 1 (.int x2)) a0) ∧ ((cOq 3 (cP 4 w115 M.2.1 1 (.int x2)) (cQ (cP 4 w115 M.2.1 1 (.int x2)) a0 1)) ∧ ((S_Ns_add cs lim n (cP 4 w115 M.2.1 1 (.int x2)) ((cQ (cP 4 w115 M.2.1 1 (.int x2)) a0 1).getD 0) (some M.2.1)) ∧ (mbind (F_Ns_add cs n (cP 4 w115 M.2.1 1 (.int x2)) ((cQ (cP 4 w115 M.2.1 1 (.int x2)) a0 1).getD 0) (some M.2.1)) (fun w121 => True)))))))))) else (True))))) else (True)))) else ((cOk 0 M a0) ∧ ((S_N_needRoom cs lim M a0 ) ∧ (mbind (F_N_needRoom cs M a0 ) (fun w90 => if w90 = 0 then ((M.2.1 + 1 ≤ lim.1 ∧ M.2.2 + 11 ≤ lim.2) ∧ ((S_No_init cs lim (gnw M (1, .inr (4, [.int 0, .int 0, .int 0, .int 0, .int 0, .int 0, .int 0, .int 0, .int 0, .int 0, .int 0])) 11) M.2.1 x1) ∧ (mbind (F_No_init cs (gnw M (1, .inr (4, [.int 0, .int 0, .int 0, .int 0, .int 0, .int 0, .int 0, .int 0, .int 0, .int 0, .int 0])) 11) M.2.1 x1) (fun w94 => if x1 = 2 then ((cOk 4 w94 M.2.1) ∧ ((cOk 0 (cP 4 w94 M.2.1 1 (.int 0)) a0) ∧ ((cOq 3 (cP 4 w94 M.2.1 1 (.int 0)) (cQ (cP 4 w94 M.2.1 1 (.int 0)) a0 1)) ∧ ((S_Ns_add cs lim n (cP 4 w94 M.2.1 1 (.int 0)) ((cQ (cP 4 w94 M.2.1 1 (.int 0)) a0 1).getD 0) (some M.2.1)) ∧ (mbind (F_Ns_add cs n (cP 4 w94 M.2.1 1 (.int 0)) ((cQ (cP 4 w94 M.2.1 1 (.int 0)) a0 1).getD 0) (some M.2.1)) (fun w105 => True)))))) else ((cOk 4 w94 M.2.1) ∧ ((cOk 0 (cP 4 w94 M.2.1 1 (.int x2)) a0) ∧ ((cOq 3 (cP 4 w94 M.2.1 1 (.int x2)) (cQ (cP 4 w94 M.2.1 1 (.int x2)) a0 1)) ∧ ((S_Ns_add cs lim n (cP 4 w94 M.2.1 1 (.int x2)) ((cQ (cP 4 w94 M.2.1 1 (.int x2)) a0 1).getD 0) (some M.2.1)) ∧ (mbind (F_Ns_add cs n (cP 4 w94 M.2.1 1 (.int x2)) ((cQ (cP 4 w94 M.2.1 1 (.int x2)) a0 1).getD 0) (some M.2.1)) (fun w100 => True)))))))))) else (True)))))) else ((M.2.1 + 1 ≤ lim.1 ∧ M.2.2 + 6 ≤ lim.2) ∧ (True)))) else (if x1 = 3 then ((S_N_needName cs lim M x2) ∧ (mbind (F_N_needName cs M x2) (fun w25 => if w25 = 0 then ((cOk 0 M a0) ∧ ((S_N_needRoom cs lim M a0 ) ∧ (mbind (F_N_needRoom cs M a0 ) (fun w29 => if w29 = 0 then ((M.2.1 + 1 ≤ lim.1 ∧ M.2.2 + 11 ≤ lim.2) ∧ ((S_No_init cs lim (gnw M (1, .inr (4, [.int 0, .int 0, .int 0, .int 0, .int 0, .int 0, .int 0, .int 0, .int 0, .int 0, .int 0])) 11) M.2.1 x1) ∧ (mbind (F_No_init cs (gnw M (1, .inr (4, [.int 0, .int 0, .int 0, .int 0, .int 0, .int 0, .int 0, .int 0, .int 0, .int 0, .int 0])) 11) M.2.1 x1) (fun w33 => if x1 = 2 then ((cOk 4 w33 M.2.1) ∧ ((cOk 0 (cP 4 w33 M.2.1 1 (.int 0)) a0) ∧ ((cOq 3 (cP 4 w33 M.2.1 1 (.int 0)) (cQ (cP 4 w33 M.2.1 1 (.int 0)) a0 1)) ∧ ((S_Ns_add cs lim n (cP 4 w33 M.2.1 1 (.int 0)) ((cQ (cP 4 w33 M.2.1 1 (.int 0)) a0 1).getD 0) (some M.2.1)) ∧ (mbind (F_Ns_add cs n (cP 4 w33 M.2.1 1 (.int 0)) ((cQ (cP 4 w33 M.2.1 1 (.int 0)) a0 1).getD 0) (some M.2.1)) (fun w44 => True)))))) else ((cOk 4 w33 M.2.1) ∧ ((cOk 0 (cP 4 w33 M.2.1 1 (.int x2)) a0) ∧ ((cOq 3 (cP 4 w33 M.2.1 1 (.int x2)) (cQ (cP 4 w33 M.2.1 1 (.int x2)) a0 1)) ∧ ((S_Ns_add cs lim n (cP 4 w33 M.2.1 1 (.int x2)) ((cQ (cP 4 w33 M.2.1 1 (.int x2)) a0 1).getD 0) (some M.2.1)) ∧ (mbind (F_Ns_add cs n (cP 4 w33 M.2.1 1 (.int x2)) ((cQ (cP 4 w33 M.2.1 1 (.int x2)) a0 1).getD 0) (some M.2.1)) (fun w39 => True)))))))))) else (True))))) else (True)))) else ((cOk 0 M a0) ∧ ((S_N_needRoom cs lim M a0 ) ∧ (mbind (F_N_needRoom cs M a0 ) (fun w8 => if w8 = 0 then ((M.2.1 + 1 ≤ lim.1 ∧ M.2.2 + 11 ≤ lim.2) ∧ ((S_No_init cs lim (gnw M (1, .inr (4, [.int 0, .int 0, .int 0, .int 0, .int 0, .int 0, .int 0, .int 0, .int 0, .int 0, .int 0])) 11) M.2.1 x1) ∧ (mbind (F_No_init cs (gnw M (1, .inr (4, [.int 0, .int 0, .int 0, .int 0, .int 0, .int 0, .int 0, .int 0, .int 0, .int 0, .int 0])) 11) M.2.1 x1) (fun w12 => if x1 = 2 then ((cOk 4 w12 M.2.1) ∧ ((cOk 0 (cP 4 w12 M.2.1 1 (.int 0)) a0) ∧ ((cOq 3 (cP 4 w12 M.2.1 1 (.int 0)) (cQ (cP 4 w12 M.2.1 1 (.int 0)) a0 1)) ∧ ((S_Ns_add cs lim n (cP 4 w12 M.2.1 1 (.int 0)) ((cQ (cP 4 w12 M.2.1 1 (.int 0)) a0 1).getD 0) (some M.2.1)) ∧ (mbind (F_Ns_add cs n (cP 4 w12 M.2.1 1 (.int 0)) ((cQ (cP 4 w12 M.2.1 1 (.int 0)) a0 1).getD 0) (some M.2.1)) (fun w23 => True)))))) else ((cOk 4 w12 M.2.1) ∧ ((cOk 0 (cP 4 w12 M.2.1 1 (.int x2)) a0) ∧ ((cOq 3 (cP 4 w12 M.2.1 1 (.int x2)) (cQ (cP 4 w12 M.2.1 1 (.int x2)) a0 1)) ∧ ((S_Ns_add cs lim n (cP 4 w12 M.2.1 1 (.int x2)) ((cQ (cP 4 w12 M.2.1 1 (.int x2)) a0 1).getD 0) (some M.2.1)) ∧ (mbind (F_Ns_add cs n (cP 4 w12 M.2.1 1 (.int x2)) ((cQ (cP 4 w12 M.2.1 1 (.int x2)) a0 1).getD 0) (some M.2.1)) (fun w18 => True)))))))))) else (True))))))) else ((M.2.1 + 1 ≤ lim.1 ∧ M.2.2 + 6 ≤ lim.2) ∧ (True)))
set_option maxRecDepth 100000 in
set_option maxHeartbeats 4000000 in
theorem cc_N_atom (l : Launch) (hf : l.flags = pinnedFlags ++ [noTraceFlag]) (D : va_G) (cs : Nat → ClassId) (B : Nat) (dE : Nat × Nat) (lim : Nat × Nat) (n : Nat) (M : gMem) (a0 : Nat) (x1 : Int32) (x2 : Int32) (hS : S_N_atom cs lim n M a0 x1 x2) : cMet l y_N_atom (Cond.code y_N_atom c_N_atom 4 (some .int)) (7) (120) D cs B dE (gA B) lim [.ref a0, .int x1, .int x2] M (fun x M' => x = (if (F_N_atom cs n M a0 x1 x2).1 = 0 then .inl (some (.int ((F_N_atom cs n M a0 x1 x2).2.1))) else .inr (exn (F_N_atom cs n M a0 x1 x2).1)) ∧ M' = (F_N_atom cs n M a0 x1 x2).2.2) := by
  refine cMet.ofW (by decide) (Nat.le_of_ble_eq_true rfl) (lv0 := [(0, .ref a0), (1, .int x1), (2, .int x2)]) rfl ?_
  intro p e s m args below meth c C hE hR0 hle hr hlocks hex hn
  generalize hF : F_N_atom cs n M a0 x1 x2 = Fv
  unfold F_N_atom at hF
  unfold S_N_atom at hS
  refine g_iload_n C d_N_atom_0 rfl ?_
  refine g_if_lt C 9 d_N_atom_1 (by decide) (fun hc1 => ?_) (fun hc1 => ?_)
  · rw [if_pos hc1] at hF hS
    obtain ⟨hl2, hS⟩ := hS
    exact c_throw C hf hex hlocks hR0 hl2 (gAts_of C hE (by decide +kernel) (by decide +kernel) ats_Ix) (gE_st hE kq_N_105) kc_N_103 kn_Ix ki_Ix ⟨rfl, rfl⟩ d_N_atom_9 d_N_atom_12 d_N_atom_13 d_N_atom_15 d_N_atom_18 (Nat.le_of_ble_eq_true rfl) (Nat.le_of_ble_eq_true rfl) (by rw [← hF]; exact ⟨rfl, rfl⟩)
  · rw [if_neg hc1] at hF hS
    refine g_iload_n C d_N_atom_4 rfl ?_
    refine g_iconst (v := 3) C d_N_atom_5 (by decide) ?_
    refine g_icmp_le C 19 d_N_atom_6 (by decide) (fun hc3 => ?_) (fun hc3 => ?_)
    · rw [if_pos hc3] at hF hS
      refine g_iload_n C d_N_atom_19 rfl ?_
      refine g_iconst (v := 1) C d_N_atom_20 (by decide) ?_
      refine g_icmp_ne C 43 d_N_atom_21 (by decide) (fun hc4 => ?_) (fun hc4 => ?_)
      · rw [if_neg hc4] at hF hS
        refine g_iload_n C d_N_atom_43 rfl ?_
        refine g_iconst (v := 3) C d_N_atom_44 (by decide) ?_
        refine g_icmp_ne C 52 d_N_atom_45 (by decide) (fun hc5 => ?_) (fun hc5 => ?_)
        · rw [if_neg hc5] at hF hS
          refine g_aload_n C d_N_atom_52 rfl ?_
          obtain ⟨ho6, hS⟩ := hS
          obtain ⟨hs7, hS⟩ := hS
          refine c_call (av := [.ref a0]) (rest := []) C hE (fun _ h => h.elim) ⟨rfl, rfl⟩ hle (cc_N_needRoom l hf D cs B dE lim _ a0  hs7) (fun _ h => h.elim) kd_N_needRoom ki_N (Nat.le_of_ble_eq_true rfl) (Nat.le_of_ble_eq_true rfl) d_N_atom_53 (Nat.le_of_ble_eq_true rfl) (c_fV (n := 0) (ci := 0) C hE.1 rfl km_N_113 kv_N_needRoom kl_N_needRoom kd_N_needRoom ⟨by decide, by decide, by decide⟩ rfl rfl d_N_atom_53 ho6) (fun v1 M1 hv hle => ?_) (fun E1 M1 hv hle => ?_)
          · rw [mbind_eq] at hF hS
            obtain ⟨hx, hM1⟩ := hv
            have hM2 := hM1.symm
            subst hM2
            generalize hq_w8 : F_N_needRoom cs M a0  = w8 at hF hS hx hle ⊢
            by_cases h09 : w8 = 0
            · rw [if_pos h09] at hF hS hx hle
              rw [if_pos h09]
              cases hx
              refine GW.eqs (st' := []) rfl ?_
              refine GW.more (A' := gA B) (fun _ h => h.elim) ?_
              obtain ⟨hl10, hS⟩ := hS
              refine c_new (M0 := M) (M := M) (ci := 4) (N := 11) (fs := [.int 0, .int 0, .int 0, .int 0, .int 0, .int 0, .int 0, .int 0, .int 0, .int 0, .int 0]) C hE.1 ⟨rfl, rfl⟩ hle i_No rfl t_No t_No_ok kc_N_116 kn_No ki_No (by decide) d_N_atom_56 hl10 (fun hle => ?_)
              refine g_dup C d_N_atom_59 rfl ?_
              refine g_iload_n C d_N_atom_60 rfl ?_
              obtain ⟨hs11, hS⟩ := hS
              refine c_call (av := [.ref M.2.1, .int x1]) (rest := [.ref M.2.1]) C hE (fun _ h => h) ⟨rfl, rfl⟩ hle (cc_No_init l hf D cs B dE lim _ M.2.1 x1 hs11) (fun _ h => h) kd_No_init ki_No (Nat.le_of_ble_eq_true rfl) (Nat.le_of_ble_eq_true rfl) d_N_atom_61 (Nat.le_of_ble_eq_true rfl) (c_fI (n := 1) C rfl km_N_118 kv_No_init kd_No_init ⟨by decide, by decide, by decide⟩ rfl rfl d_N_atom_61) (fun v1 M1 hv hle => ?_) (fun E1 M1 hv hle => ?_)
              · rw [mbind_eq] at hF hS
                obtain ⟨hx, hM1⟩ := hv
                have hM2 := hM1.symm
                subst hM2
                generalize hq_w12 : F_No_init cs (gnw M (1, .inr (4, [.int 0, .int 0, .int 0, .int 0, .int 0, .int 0, .int 0, .int 0, .int 0, .int 0, .int 0])) 11) M.2.1 x1 = w12 at hF hS hx hle ⊢
                cases hx
                refine GW.eqs (st' := [.ref M.2.1]) rfl ?_
                refine g_astore_n (lv' := [(3, .ref M.2.1), (0, .ref a0), (1, .int x1), (2, .int x2)]) C d_N_atom_64 (by decide) rfl ?_
                refine g_aload_n C d_N_atom_65 rfl ?_
                refine g_iload_n C d_N_atom_66 rfl ?_
                refine g_iconst (v := 2) C d_N_atom_67 (by decide) ?_
                refine g_icmp_ne C 75 d_N_atom_68 (by decide) (fun hc13 => ?_) (fun hc13 => ?_)
                · rw [if_neg hc13] at hF hS
                  refine g_iload_n C d_N_atom_75 rfl ?_
                  obtain ⟨ho14, hS⟩ := hS
                  refine k_put (M0 := M) (M := w12) C hE.1 (ci := 4) i_No rfl 1 (by decide) (by decide) kf_N_120 t_No t_No_ok n_No rfl (nf_i _) d_N_atom_76 ho14 ?_
                  replace hle := cLe.cP (ci := 4) (a := M.2.1) (k := 1) (v := .int x2) hle
                  refine g_aload_n C d_N_atom_79 rfl ?_
                  obtain ⟨ho15, hS⟩ := hS
                  refine c_getq C hE.1 (ci := 0) i_N rfl 1 (by decide) (by decide) (by decide) kf_N_19 d_N_atom_80 ho15 ?_
                  refine g_aload_n C d_N_atom_83 rfl ?_
                  obtain ⟨ho16, hS⟩ := hS
                  refine GW.known2 (a := (cQ (cP 4 w12 M.2.1 1 (.int x2)) a0 1).getD 0) (cOq.at ho16).1 ?_
                  obtain ⟨hs17, hS⟩ := hS
                  refine c_call (av := [.ref ((cQ (cP 4 w12 M.2.1 1 (.int x2)) a0 1).getD 0), .ref M.2.1]) (rest := []) C hE (fun _ h => h) ⟨rfl, rfl⟩ hle (cc_Ns_add l hf D cs B dE lim n _ ((cQ (cP 4 w12 M.2.1 1 (.int x2)) a0 1).getD 0) (some M.2.1) hs17) (fun _ h => h) kd_Ns_add ki_Ns (Nat.le_of_ble_eq_true rfl) (Nat.le_of_ble_eq_true rfl) d_N_atom_84 (Nat.le_of_ble_eq_true rfl) (c_fV (n := 1) (ci := 3) C hE.1 rfl km_N_124 kv_Ns_add kl_Ns_add kd_Ns_add ⟨by decide, by decide, by decide⟩ rfl rfl d_N_atom_84 (cOq.at ho16).2) (fun v1 M1 hv hle => ?_) (fun E1 M1 hv hle => ?_)
                  · rw [mbind_eq] at hF hS
                    obtain ⟨hx, hM1⟩ := hv
                    have hM2 := hM1.symm
                    subst hM2
                    generalize hq_w18 : F_Ns_add cs n (cP 4 w12 M.2.1 1 (.int x2)) ((cQ (cP 4 w12 M.2.1 1 (.int x2)) a0 1).getD 0) (some M.2.1) = w18 at hF hS hx hle ⊢
                    cases hx
                    refine GW.eqs (st' := [.int w18.1]) rfl ?_
                    exact c_iret (M := w18.2) C hr hlocks hle d_N_atom_87 (by rw [← hF]; exact ⟨(if_pos rfl).symm, rfl⟩)
                  · cases hv.1
                · rw [if_pos hc13] at hF hS
                  refine g_iconst (v := 0) C d_N_atom_71 (by decide) ?_
                  refine g_goto C 76 d_N_atom_72 (by decide) ?_
                  obtain ⟨ho19, hS⟩ := hS
                  refine k_put (M0 := M) (M := w12) C hE.1 (ci := 4) i_No rfl 1 (by decide) (by decide) kf_N_120 t_No t_No_ok n_No rfl (nf_i _) d_N_atom_76 ho19 ?_
                  replace hle := cLe.cP (ci := 4) (a := M.2.1) (k := 1) (v := .int 0) hle
                  refine g_aload_n C d_N_atom_79 rfl ?_
                  obtain ⟨ho20, hS⟩ := hS
                  refine c_getq C hE.1 (ci := 0) i_N rfl 1 (by decide) (by decide) (by decide) kf_N_19 d_N_atom_80 ho20 ?_
                  refine g_aload_n C d_N_atom_83 rfl ?_
                  obtain ⟨ho21, hS⟩ := hS
                  refine GW.known2 (a := (cQ (cP 4 w12 M.2.1 1 (.int 0)) a0 1).getD 0) (cOq.at ho21).1 ?_
                  obtain ⟨hs22, hS⟩ := hS
                  refine c_call (av := [.ref ((cQ (cP 4 w12 M.2.1 1 (.int 0)) a0 1).getD 0), .ref M.2.1]) (rest := []) C hE (fun _ h => h) ⟨rfl, rfl⟩ hle (cc_Ns_add l hf D cs B dE lim n _ ((cQ (cP 4 w12 M.2.1 1 (.int 0)) a0 1).getD 0) (some M.2.1) hs22) (fun _ h => h) kd_Ns_add ki_Ns (Nat.le_of_ble_eq_true rfl) (Nat.le_of_ble_eq_true rfl) d_N_atom_84 (Nat.le_of_ble_eq_true rfl) (c_fV (n := 1) (ci := 3) C hE.1 rfl km_N_124 kv_Ns_add kl_Ns_add kd_Ns_add ⟨by decide, by decide, by decide⟩ rfl rfl d_N_atom_84 (cOq.at ho21).2) (fun v1 M1 hv hle => ?_) (fun E1 M1 hv hle => ?_)
                  · rw [mbind_eq] at hF hS
                    obtain ⟨hx, hM1⟩ := hv
                    have hM2 := hM1.symm
                    subst hM2
                    generalize hq_w23 : F_Ns_add cs n (cP 4 w12 M.2.1 1 (.int 0)) ((cQ (cP 4 w12 M.2.1 1 (.int 0)) a0 1).getD 0) (some M.2.1) = w23 at hF hS hx hle ⊢
                    cases hx
                    refine GW.eqs (st' := [.int w23.1]) rfl ?_
                    exact c_iret (M := w23.2) C hr hlocks hle d_N_atom_87 (by rw [← hF]; exact ⟨(if_pos rfl).symm, rfl⟩)
                  · cases hv.1
              · cases hv.1
            · rw [if_neg h09] at hx
              cases hx
          · rw [mbind_eq] at hF
            obtain ⟨hx, hM1⟩ := hv
            have hM2 := hM1.symm
            subst hM2
            generalize F_N_needRoom cs M a0  = w8 at hF hx hle ⊢
            by_cases h09 : w8 = 0
            · rw [if_pos h09] at hx
              cases hx
            · rw [if_neg h09] at hF hx hle
              rw [if_neg h09]
              cases hx
              exact c_tleave (fun _ h => h.elim) hex hlocks hle (by rw [← hF]; exact ⟨by rw [if_neg h09], rfl⟩)
        · rw [if_pos hc5] at hF hS
          refine g_iload_n C d_N_atom_48 rfl ?_
          obtain ⟨hs24, hS⟩ := hS
          refine c_call (av := [.int x2]) (rest := []) C hE (fun _ h => h.elim) ⟨rfl, rfl⟩ hle (cc_N_needName l hf D cs B dE lim _ x2 hs24) (fun _ h => h.elim) kd_N_needName ki_N (Nat.le_of_ble_eq_true rfl) (Nat.le_of_ble_eq_true rfl) d_N_atom_49 (Nat.le_of_ble_eq_true rfl) (c_fS (n := 1) C km_N_110 ks_N_needName ki_N kd_N_needName ⟨by decide, by decide, by decide⟩ rfl rfl d_N_atom_49) (fun v1 M1 hv hle => ?_) (fun E1 M1 hv hle => ?_)
          · rw [mbind_eq] at hF hS
            obtain ⟨hx, hM1⟩ := hv
            have hM2 := hM1.symm
            subst hM2
            generalize hq_w25 : F_N_needName cs M x2 = w25 at hF hS hx hle ⊢
            by_cases h026 : w25 = 0
            · rw [if_pos h026] at hF hS hx hle
              rw [if_pos h026]
              cases hx
              refine GW.eqs (st' := []) rfl ?_
              refine g_aload_n C d_N_atom_52 rfl ?_
              obtain ⟨ho27, hS⟩ := hS
              obtain ⟨hs28, hS⟩ := hS
              refine c_call (av := [.ref a0]) (rest := []) C hE (fun _ h => h.elim) ⟨rfl, rfl⟩ hle (cc_N_needRoom l hf D cs B dE lim _ a0  hs28) (fun _ h => h.elim) kd_N_needRoom ki_N (Nat.le_of_ble_eq_true rfl) (Nat.le_of_ble_eq_true rfl) d_N_atom_53 (Nat.le_of_ble_eq_true rfl) (c_fV (n := 0) (ci := 0) C hE.1 rfl km_N_113 kv_N_needRoom kl_N_needRoom kd_N_needRoom ⟨by decide, by decide, by decide⟩ rfl rfl d_N_atom_53 ho27) (fun v1 M1 hv hle => ?_) (fun E1 M1 hv hle => ?_)
              · rw [mbind_eq] at hF hS
                obtain ⟨hx, hM1⟩ := hv
                have hM2 := hM1.symm
                subst hM2
                generalize hq_w29 : F_N_needRoom cs M a0  = w29 at hF hS hx hle ⊢
                by_cases h030 : w29 = 0
                · rw [if_pos h030] at hF hS hx hle
                  rw [if_pos h030]
                  cases hx
                  refine GW.eqs (st' := []) rfl ?_
                  refine GW.more (A' := gA B) (fun _ h => h.elim) ?_
                  obtain ⟨hl31, hS⟩ := hS
                  refine c_new (M0 := M) (M := M) (ci := 4) (N := 11) (fs := [.int 0, .int 0, .int 0, .int 0, .int 0, .int 0, .int 0, .int 0, .int 0, .int 0, .int 0]) C hE.1 ⟨rfl, rfl⟩ hle i_No rfl t_No t_No_ok kc_N_116 kn_No ki_No (by decide) d_N_atom_56 hl31 (fun hle => ?_)
                  refine g_dup C d_N_atom_59 rfl ?_
                  refine g_iload_n C d_N_atom_60 rfl ?_
                  obtain ⟨hs32, hS⟩ := hS
                  refine c_call (av := [.ref M.2.1, .int x1]) (rest := [.ref M.2.1]) C hE (fun _ h => h) ⟨rfl, rfl⟩ hle (cc_No_init l hf D cs B dE lim _ M.2.1 x1 hs32) (fun _ h => h) kd_No_init ki_No (Nat.le_of_ble_eq_true rfl) (Nat.le_of_ble_eq_true rfl) d_N_atom_61 (Nat.le_of_ble_eq_true rfl) (c_fI (n := 1) C rfl km_N_118 kv_No_init kd_No_init ⟨by decide, by decide, by decide⟩ rfl rfl d_N_atom_61) (fun v1 M1 hv hle => ?_) (fun E1 M1 hv hle => ?_)
                  · rw [mbind_eq] at hF hS
                    obtain ⟨hx, hM1⟩ := hv
                    have hM2 := hM1.symm
                    subst hM2
                    generalize hq_w33 : F_No_init cs (gnw M (1, .inr (4, [.int 0, .int 0, .int 0, .int 0, .int 0, .int 0, .int 0, .int 0, .int 0, .int 0, .int 0])) 11) M.2.1 x1 = w33 at hF hS hx hle ⊢
                    cases hx
                    refine GW.eqs (st' := [.ref M.2.1]) rfl ?_
                    refine g_astore_n (lv' := [(3, .ref M.2.1), (0, .ref a0), (1, .int x1), (2, .int x2)]) C d_N_atom_64 (by decide) rfl ?_
                    refine g_aload_n C d_N_atom_65 rfl ?_
                    refine g_iload_n C d_N_atom_66 rfl ?_
                    refine g_iconst (v := 2) C d_N_atom_67 (by decide) ?_
                    refine g_icmp_ne C 75 d_N_atom_68 (by decide) (fun hc34 => ?_) (fun hc34 => ?_)
                    · rw [if_neg hc34] at hF hS
                      refine g_iload_n C d_N_atom_75 rfl ?_
                      obtain ⟨ho35, hS⟩ := hS
                      refine k_put (M0 := M) (M := w33) C hE.1 (ci := 4) i_No rfl 1 (by decide) (by decide) kf_N_120 t_No t_No_ok n_No rfl (nf_i _) d_N_atom_76 ho35 ?_
                      replace hle := cLe.cP (ci := 4) (a := M.2.1) (k := 1) (v := .int x2) hle
                      refine g_aload_n C d_N_atom_79 rfl ?_
                      obtain ⟨ho36, hS⟩ := hS
                      refine c_getq C hE.1 (ci := 0) i_N rfl 1 (by decide) (by decide) (by decide) kf_N_19 d_N_atom_80 ho36 ?_
                      refine g_aload_n C d_N_atom_83 rfl ?_
                      obtain ⟨ho37, hS⟩ := hS
                      refine GW.known2 (a := (cQ (cP 4 w33 M.2.1 1 (.int x2)) a0 1).getD 0) (cOq.at ho37).1 ?_
                      obtain ⟨hs38, hS⟩ := hS
                      refine c_call (av := [.ref ((cQ (cP 4 w33 M.2.1 1 (.int x2)) a0 1).getD 0), .ref M.2.1]) (rest := []) C hE (fun _ h => h) ⟨rfl, rfl⟩ hle (cc_Ns_add l hf D cs B dE lim n _ ((cQ (cP 4 w33 M.2.1 1 (.int x2)) a0 1).getD 0) (some M.2.1) hs38) (fun _ h => h) kd_Ns_add ki_Ns (Nat.le_of_ble_eq_true rfl) (Nat.le_of_ble_eq_true rfl) d_N_atom_84 (Nat.le_of_ble_eq_true rfl) (c_fV (n := 1) (ci := 3) C hE.1 rfl km_N_124 kv_Ns_add kl_Ns_add kd_Ns_add ⟨by decide, by decide, by decide⟩ rfl rfl d_N_atom_84 (cOq.at ho37).2) (fun v1 M1 hv hle => ?_) (fun E1 M1 hv hle => ?_)
                      · rw [mbind_eq] at hF hS
                        obtain ⟨hx, hM1⟩ := hv
                        have hM2 := hM1.symm
                        subst hM2
                        generalize hq_w39 : F_Ns_add cs n (cP 4 w33 M.2.1 1 (.int x2)) ((cQ (cP 4 w33 M.2.1 1 (.int x2)) a0 1).getD 0) (some M.2.1) = w39 at hF hS hx hle ⊢
                        cases hx
                        refine GW.eqs (st' := [.int w39.1]) rfl ?_
                        exact c_iret (M := w39.2) C hr hlocks hle d_N_atom_87 (by rw [← hF]; exact ⟨(if_pos rfl).symm, rfl⟩)
                      · cases hv.1
                    · rw [if_pos hc34] at hF hS
                      refine g_iconst (v := 0) C d_N_atom_71 (by decide) ?_
                      refine g_goto C 76 d_N_atom_72 (by decide) ?_
                      obtain ⟨ho40, hS⟩ := hS
                      refine k_put (M0 := M) (M := w33) C hE.1 (ci := 4) i_No rfl 1 (by decide) (by decide) kf_N_120 t_No t_No_ok n_No rfl (nf_i _) d_N_atom_76 ho40 ?_
                      replace hle := cLe.cP (ci := 4) (a := M.2.1) (k := 1) (v := .int 0) hle
                      refine g_aload_n C d_N_atom_79 rfl ?_
                      obtain ⟨ho41, hS⟩ := hS
                      refine c_getq C hE.1 (ci := 0) i_N rfl 1 (by decide) (by decide) (by decide) kf_N_19 d_N_atom_80 ho41 ?_
                      refine g_aload_n C d_N_atom_83 rfl ?_
                      obtain ⟨ho42, hS⟩ := hS
                      refine GW.known2 (a := (cQ (cP 4 w33 M.2.1 1 (.int 0)) a0 1).getD 0) (cOq.at ho42).1 ?_
                      obtain ⟨hs43, hS⟩ := hS
                      refine c_call (av := [.ref ((cQ (cP 4 w33 M.2.1 1 (.int 0)) a0 1).getD 0), .ref M.2.1]) (rest := []) C hE (fun _ h => h) ⟨rfl, rfl⟩ hle (cc_Ns_add l hf D cs B dE lim n _ ((cQ (cP 4 w33 M.2.1 1 (.int 0)) a0 1).getD 0) (some M.2.1) hs43) (fun _ h => h) kd_Ns_add ki_Ns (Nat.le_of_ble_eq_true rfl) (Nat.le_of_ble_eq_true rfl) d_N_atom_84 (Nat.le_of_ble_eq_true rfl) (c_fV (n := 1) (ci := 3) C hE.1 rfl km_N_124 kv_Ns_add kl_Ns_add kd_Ns_add ⟨by decide, by decide, by decide⟩ rfl rfl d_N_atom_84 (cOq.at ho42).2) (fun v1 M1 hv hle => ?_) (fun E1 M1 hv hle => ?_)
                      · rw [mbind_eq] at hF hS
                        obtain ⟨hx, hM1⟩ := hv
                        have hM2 := hM1.symm
                        subst hM2
                        generalize hq_w44 : F_Ns_add cs n (cP 4 w33 M.2.1 1 (.int 0)) ((cQ (cP 4 w33 M.2.1 1 (.int 0)) a0 1).getD 0) (some M.2.1) = w44 at hF hS hx hle ⊢
                        cases hx
                        refine GW.eqs (st' := [.int w44.1]) rfl ?_
                        exact c_iret (M := w44.2) C hr hlocks hle d_N_atom_87 (by rw [← hF]; exact ⟨(if_pos rfl).symm, rfl⟩)
                      · cases hv.1
                  · cases hv.1
                · rw [if_neg h030] at hx
                  cases hx
              · rw [mbind_eq] at hF
                obtain ⟨hx, hM1⟩ := hv
                have hM2 := hM1.symm
                subst hM2
                generalize F_N_needRoom cs M a0  = w29 at hF hx hle ⊢
                by_cases h030 : w29 = 0
                · rw [if_pos h030] at hx
                  cases hx
                · rw [if_neg h030] at hF hx hle
                  rw [if_neg h030]
                  cases hx
                  exact c_tleave (fun _ h => h.elim) hex hlocks hle (by rw [← hF]; exact ⟨by rw [if_neg h030], rfl⟩)
            · rw [if_neg h026] at hx
              cases hx
          · rw [mbind_eq] at hF
            obtain ⟨hx, hM1⟩ := hv
            have hM2 := hM1.symm
            subst hM2
            generalize F_N_needName cs M x2 = w25 at hF hx hle ⊢
            by_cases h026 : w25 = 0
            · rw [if_pos h026] at hx
              cases hx
            · rw [if_neg h026] at hF hx hle
              rw [if_neg h026]
              cases hx
              exact c_tleave (fun _ h => h.elim) hex hlocks hle (by rw [← hF]; exact ⟨by rw [if_neg h026], rfl⟩)
      · rw [if_pos hc4] at hF hS
        refine g_iload_n C d_N_atom_24 rfl ?_
        refine g_if_eq C 43 d_N_atom_25 (by decide) (fun hc45 => ?_) (fun hc45 => ?_)
        · rw [if_pos hc45] at hF hS
          refine g_iload_n C d_N_atom_43 rfl ?_
          refine g_iconst (v := 3) C d_N_atom_44 (by decide) ?_
          refine g_icmp_ne C 52 d_N_atom_45 (by decide) (fun hc46 => ?_) (fun hc46 => ?_)
          · rw [if_neg hc46] at hF hS
            refine g_aload_n C d_N_atom_52 rfl ?_
            obtain ⟨ho47, hS⟩ := hS
            obtain ⟨hs48, hS⟩ := hS
            refine c_call (av := [.ref a0]) (rest := []) C hE (fun _ h => h.elim) ⟨rfl, rfl⟩ hle (cc_N_needRoom l hf D cs B dE lim _ a0  hs48) (fun _ h => h.elim) kd_N_needRoom ki_N (Nat.le_of_ble_eq_true rfl) (Nat.le_of_ble_eq_true rfl) d_N_atom_53 (Nat.le_of_ble_eq_true rfl) (c_fV (n := 0) (ci := 0) C hE.1 rfl km_N_113 kv_N_needRoom kl_N_needRoom kd_N_needRoom ⟨by decide, by decide, by decide⟩ rfl rfl d_N_atom_53 ho47) (fun v1 M1 hv hle => ?_) (fun E1 M1 hv hle => ?_)
            · rw [mbind_eq] at hF hS
              obtain ⟨hx, hM1⟩ := hv
              have hM2 := hM1.symm
              subst hM2
              generalize hq_w49 : F_N_needRoom cs M a0  = w49 at hF hS hx hle ⊢
              by_cases h050 : w49 = 0
              · rw [if_pos h050] at hF hS hx hle
                rw [if_pos h050]
                cases hx
                refine GW.eqs (st' := []) rfl ?_
                refine GW.more (A' := gA B) (fun _ h => h.elim) ?_
                obtain ⟨hl51, hS⟩ := hS
                refine c_new (M0 := M) (M := M) (ci := 4) (N := 11) (fs := [.int 0, .int 0, .int 0, .int 0, .int 0, .int 0, .int 0, .int 0, .int 0, .int 0, .int 0]) C hE.1 ⟨rfl, rfl⟩ hle i_No rfl t_No t_No_ok kc_N_116 kn_No ki_No (by decide) d_N_atom_56 hl51 (fun hle => ?_)
                refine g_dup C d_N_atom_59 rfl ?_
                refine g_iload_n C d_N_atom_60 rfl ?_
                obtain ⟨hs52, hS⟩ := hS
                refine c_call (av := [.ref M.2.1, .int x1]) (rest := [.ref M.2.1]) C hE (fun _ h => h) ⟨rfl, rfl⟩ hle (cc_No_init l hf D cs B dE lim _ M.2.1 x1 hs52) (fun _ h => h) kd_No_init ki_No (Nat.le_of_ble_eq_true rfl) (Nat.le_of_ble_eq_true rfl) d_N_atom_61 (Nat.le_of_ble_eq_true rfl) (c_fI (n := 1) C rfl km_N_118 kv_No_init kd_No_init ⟨by decide, by decide, by decide⟩ rfl rfl d_N_atom_61) (fun v1 M1 hv hle => ?_) (fun E1 M1 hv hle => ?_)
                · rw [mbind_eq] at hF hS
                  obtain ⟨hx, hM1⟩ := hv
                  have hM2 := hM1.symm
                  subst hM2
                  generalize hq_w53 : F_No_init cs (gnw M (1, .inr (4, [.int 0, .int 0, .int 0, .int 0, .int 0, .int 0, .int 0, .int 0, .int 0, .int 0, .int 0])) 11) M.2.1 x1 = w53 at hF hS hx hle ⊢
                  cases hx
                  refine GW.eqs (st' := [.ref M.2.1]) rfl ?_
                  refine g_astore_n (lv' := [(3, .ref M.2.1), (0, .ref a0), (1, .int x1), (2, .int x2)]) C d_N_atom_64 (by decide) rfl ?_
                  refine g_aload_n C d_N_atom_65 rfl ?_
                  refine g_iload_n C d_N_atom_66 rfl ?_
                  refine g_iconst (v := 2) C d_N_atom_67 (by decide) ?_
                  refine g_icmp_ne C 75 d_N_atom_68 (by decide) (fun hc54 => ?_) (fun hc54 => ?_)
                  · rw [if_neg hc54] at hF hS
                    refine g_iload_n C d_N_atom_75 rfl ?_
                    obtain ⟨ho55, hS⟩ := hS
                    refine k_put (M0 := M) (M := w53) C hE.1 (ci := 4) i_No rfl 1 (by decide) (by decide) kf_N_120 t_No t_No_ok n_No rfl (nf_i _) d_N_atom_76 ho55 ?_
                    replace hle := cLe.cP (ci := 4) (a := M.2.1) (k := 1) (v := .int x2) hle
                    refine g_aload_n C d_N_atom_79 rfl ?_
                    obtain ⟨ho56, hS⟩ := hS
                    refine c_getq C hE.1 (ci := 0) i_N rfl 1 (by decide) (by decide) (by decide) kf_N_19 d_N_atom_80 ho56 ?_
                    refine g_aload_n C d_N_atom_83 rfl ?_
                    obtain ⟨ho57, hS⟩ := hS
                    refine GW.known2 (a := (cQ (cP 4 w53 M.2.1 1 (.int x2)) a0 1).getD 0) (cOq.at ho57).1 ?_
                    obtain ⟨hs58, hS⟩ := hS
                    refine c_call (av := [.ref ((cQ (cP 4 w53 M.2.1 1 (.int x2)) a0 1).getD 0), .ref M.2.1]) (rest := []) C hE (fun _ h => h) ⟨rfl, rfl⟩ hle (cc_Ns_add l hf D cs B dE lim n _ ((cQ (cP 4 w53 M.2.1 1 (.int x2)) a0 1).getD 0) (some M.2.1) hs58) (fun _ h => h) kd_Ns_add ki_Ns (Nat.le_of_ble_eq_true rfl) (Nat.le_of_ble_eq_true rfl) d_N_atom_84 (Nat.le_of_ble_eq_true rfl) (c_fV (n := 1) (ci := 3) C hE.1 rfl km_N_124 kv_Ns_add kl_Ns_add kd_Ns_add ⟨by decide, by decide, by decide⟩ rfl rfl d_N_atom_84 (cOq.at ho57).2) (fun v1 M1 hv hle => ?_) (fun E1 M1 hv hle => ?_)
                    · rw [mbind_eq] at hF hS
                      obtain ⟨hx, hM1⟩ := hv
                      have hM2 := hM1.symm
                      subst hM2
                      generalize hq_w59 : F_Ns_add cs n (cP 4 w53 M.2.1 1 (.int x2)) ((cQ (cP 4 w53 M.2.1 1 (.int x2)) a0 1).getD 0) (some M.2.1) = w59 at hF hS hx hle ⊢
                      cases hx
                      refine GW.eqs (st' := [.int w59.1]) rfl ?_
                      exact c_iret (M := w59.2) C hr hlocks hle d_N_atom_87 (by rw [← hF]; exact ⟨(if_pos rfl).symm, rfl⟩)
                    · cases hv.1
                  · rw [if_pos hc54] at hF hS
                    refine g_iconst (v := 0) C d_N_atom_71 (by decide) ?_
                    refine g_goto C 76 d_N_atom_72 (by decide) ?_
                    obtain ⟨ho60, hS⟩ := hS
                    refine k_put (M0 := M) (M := w53) C hE.1 (ci := 4) i_No rfl 1 (by decide) (by decide) kf_N_120 t_No t_No_ok n_No rfl (nf_i _) d_N_atom_76 ho60 ?_
                    replace hle := cLe.cP (ci := 4) (a := M.2.1) (k := 1) (v := .int 0) hle
                    refine g_aload_n C d_N_atom_79 rfl ?_
                    obtain ⟨ho61, hS⟩ := hS
                    refine c_getq C hE.1 (ci := 0) i_N rfl 1 (by decide) (by decide) (by decide) kf_N_19 d_N_atom_80 ho61 ?_
                    refine g_aload_n C d_N_atom_83 rfl ?_
                    obtain ⟨ho62, hS⟩ := hS
                    refine GW.known2 (a := (cQ (cP 4 w53 M.2.1 1 (.int 0)) a0 1).getD 0) (cOq.at ho62).1 ?_
                    obtain ⟨hs63, hS⟩ := hS
                    refine c_call (av := [.ref ((cQ (cP 4 w53 M.2.1 1 (.int 0)) a0 1).getD 0), .ref M.2.1]) (rest := []) C hE (fun _ h => h) ⟨rfl, rfl⟩ hle (cc_Ns_add l hf D cs B dE lim n _ ((cQ (cP 4 w53 M.2.1 1 (.int 0)) a0 1).getD 0) (some M.2.1) hs63) (fun _ h => h) kd_Ns_add ki_Ns (Nat.le_of_ble_eq_true rfl) (Nat.le_of_ble_eq_true rfl) d_N_atom_84 (Nat.le_of_ble_eq_true rfl) (c_fV (n := 1) (ci := 3) C hE.1 rfl km_N_124 kv_Ns_add kl_Ns_add kd_Ns_add ⟨by decide, by decide, by decide⟩ rfl rfl d_N_atom_84 (cOq.at ho62).2) (fun v1 M1 hv hle => ?_) (fun E1 M1 hv hle => ?_)
                    · rw [mbind_eq] at hF hS
                      obtain ⟨hx, hM1⟩ := hv
                      have hM2 := hM1.symm
                      subst hM2
                      generalize hq_w64 : F_Ns_add cs n (cP 4 w53 M.2.1 1 (.int 0)) ((cQ (cP 4 w53 M.2.1 1 (.int 0)) a0 1).getD 0) (some M.2.1) = w64 at hF hS hx hle ⊢
                      cases hx
                      refine GW.eqs (st' := [.int w64.1]) rfl ?_
                      exact c_iret (M := w64.2) C hr hlocks hle d_N_atom_87 (by rw [← hF]; exact ⟨(if_pos rfl).symm, rfl⟩)
                    · cases hv.1
                · cases hv.1
              · rw [if_neg h050] at hx
                cases hx
            · rw [mbind_eq] at hF
              obtain ⟨hx, hM1⟩ := hv
              have hM2 := hM1.symm
              subst hM2
              generalize F_N_needRoom cs M a0  = w49 at hF hx hle ⊢
              by_cases h050 : w49 = 0
              · rw [if_pos h050] at hx
                cases hx
              · rw [if_neg h050] at hF hx hle
                rw [if_neg h050]
                cases hx
                exact c_tleave (fun _ h => h.elim) hex hlocks hle (by rw [← hF]; exact ⟨by rw [if_neg h050], rfl⟩)
          · rw [if_pos hc46] at hF hS
            refine g_iload_n C d_N_atom_48 rfl ?_
            obtain ⟨hs65, hS⟩ := hS
            refine c_call (av := [.int x2]) (rest := []) C hE (fun _ h => h.elim) ⟨rfl, rfl⟩ hle (cc_N_needName l hf D cs B dE lim _ x2 hs65) (fun _ h => h.elim) kd_N_needName ki_N (Nat.le_of_ble_eq_true rfl) (Nat.le_of_ble_eq_true rfl) d_N_atom_49 (Nat.le_of_ble_eq_true rfl) (c_fS (n := 1) C km_N_110 ks_N_needName ki_N kd_N_needName ⟨by decide, by decide, by decide⟩ rfl rfl d_N_atom_49) (fun v1 M1 hv hle => ?_) (fun E1 M1 hv hle => ?_)
            · rw [mbind_eq] at hF hS
              obtain ⟨hx, hM1⟩ := hv
              have hM2 := hM1.symm
              subst hM2
              generalize hq_w66 : F_N_needName cs M x2 = w66 at hF hS hx hle ⊢
              by_cases h067 : w66 = 0
              · rw [if_pos h067] at hF hS hx hle
                rw [if_pos h067]
                cases hx
                refine GW.eqs (st' := []) rfl ?_
                refine g_aload_n C d_N_atom_52 rfl ?_
                obtain ⟨ho68, hS⟩ := hS
                obtain ⟨hs69, hS⟩ := hS
                refine c_call (av := [.ref a0]) (rest := []) C hE (fun _ h => h.elim) ⟨rfl, rfl⟩ hle (cc_N_needRoom l hf D cs B dE lim _ a0  hs69) (fun _ h => h.elim) kd_N_needRoom ki_N (Nat.le_of_ble_eq_true rfl) (Nat.le_of_ble_eq_true rfl) d_N_atom_53 (Nat.le_of_ble_eq_true rfl) (c_fV (n := 0) (ci := 0) C hE.1 rfl km_N_113 kv_N_needRoom kl_N_needRoom kd_N_needRoom ⟨by decide, by decide, by decide⟩ rfl rfl d_N_atom_53 ho68) (fun v1 M1 hv hle => ?_) (fun E1 M1 hv hle => ?_)
                · rw [mbind_eq] at hF hS
                  obtain ⟨hx, hM1⟩ := hv
                  have hM2 := hM1.symm
                  subst hM2
                  generalize hq_w70 : F_N_needRoom cs M a0  = w70 at hF hS hx hle ⊢
                  by_cases h071 : w70 = 0
                  · rw [if_pos h071] at hF hS hx hle
                    rw [if_pos h071]
                    cases hx
                    refine GW.eqs (st' := []) rfl ?_
                    refine GW.more (A' := gA B) (fun _ h => h.elim) ?_
                    obtain ⟨hl72, hS⟩ := hS
                    refine c_new (M0 := M) (M := M) (ci := 4) (N := 11) (fs := [.int 0, .int 0, .int 0, .int 0, .int 0, .int 0, .int 0, .int 0, .int 0, .int 0, .int 0]) C hE.1 ⟨rfl, rfl⟩ hle i_No rfl t_No t_No_ok kc_N_116 kn_No ki_No (by decide) d_N_atom_56 hl72 (fun hle => ?_)
                    refine g_dup C d_N_atom_59 rfl ?_
                    refine g_iload_n C d_N_atom_60 rfl ?_
                    obtain ⟨hs73, hS⟩ := hS
                    refine c_call (av := [.ref M.2.1, .int x1]) (rest := [.ref M.2.1]) C hE (fun _ h => h) ⟨rfl, rfl⟩ hle (cc_No_init l hf D cs B dE lim _ M.2.1 x1 hs73) (fun _ h => h) kd_No_init ki_No (Nat.le_of_ble_eq_true rfl) (Nat.le_of_ble_eq_true rfl) d_N_atom_61 (Nat.le_of_ble_eq_true rfl) (c_fI (n := 1) C rfl km_N_118 kv_No_init kd_No_init ⟨by decide, by decide, by decide⟩ rfl rfl d_N_atom_61) (fun v1 M1 hv hle => ?_) (fun E1 M1 hv hle => ?_)
                    · rw [mbind_eq] at hF hS
                      obtain ⟨hx, hM1⟩ := hv
                      have hM2 := hM1.symm
                      subst hM2
                      generalize hq_w74 : F_No_init cs (gnw M (1, .inr (4, [.int 0, .int 0, .int 0, .int 0, .int 0, .int 0, .int 0, .int 0, .int 0, .int 0, .int 0])) 11) M.2.1 x1 = w74 at hF hS hx hle ⊢
                      cases hx
                      refine GW.eqs (st' := [.ref M.2.1]) rfl ?_
                      refine g_astore_n (lv' := [(3, .ref M.2.1), (0, .ref a0), (1, .int x1), (2, .int x2)]) C d_N_atom_64 (by decide) rfl ?_
                      refine g_aload_n C d_N_atom_65 rfl ?_
                      refine g_iload_n C d_N_atom_66 rfl ?_
                      refine g_iconst (v := 2) C d_N_atom_67 (by decide) ?_
                      refine g_icmp_ne C 75 d_N_atom_68 (by decide) (fun hc75 => ?_) (fun hc75 => ?_)
                      · rw [if_neg hc75] at hF hS
                        refine g_iload_n C d_N_atom_75 rfl ?_
                        obtain ⟨ho76, hS⟩ := hS
                        refine k_put (M0 := M) (M := w74) C hE.1 (ci := 4) i_No rfl 1 (by decide) (by decide) kf_N_120 t_No t_No_ok n_No rfl (nf_i _) d_N_atom_76 ho76 ?_
                        replace hle := cLe.cP (ci := 4) (a := M.2.1) (k := 1) (v := .int x2) hle
                        refine g_aload_n C d_N_atom_79 rfl ?_
                        obtain ⟨ho77, hS⟩ := hS
                        refine c_getq C hE.1 (ci := 0) i_N rfl 1 (by decide) (by decide) (by decide) kf_N_19 d_N_atom_80 ho77 ?_
                        refine g_aload_n C d_N_atom_83 rfl ?_
                        obtain ⟨ho78, hS⟩ := hS
                        refine GW.known2 (a := (cQ (cP 4 w74 M.2.1 1 (.int x2)) a0 1).getD 0) (cOq.at ho78).1 ?_
                        obtain ⟨hs79, hS⟩ := hS
                        refine c_call (av := [.ref ((cQ (cP 4 w74 M.2.1 1 (.int x2)) a0 1).getD 0), .ref M.2.1]) (rest := []) C hE (fun _ h => h) ⟨rfl, rfl⟩ hle (cc_Ns_add l hf D cs B dE lim n _ ((cQ (cP 4 w74 M.2.1 1 (.int x2)) a0 1).getD 0) (some M.2.1) hs79) (fun _ h => h) kd_Ns_add ki_Ns (Nat.le_of_ble_eq_true rfl) (Nat.le_of_ble_eq_true rfl) d_N_atom_84 (Nat.le_of_ble_eq_true rfl) (c_fV (n := 1) (ci := 3) C hE.1 rfl km_N_124 kv_Ns_add kl_Ns_add kd_Ns_add ⟨by decide, by decide, by decide⟩ rfl rfl d_N_atom_84 (cOq.at ho78).2) (fun v1 M1 hv hle => ?_) (fun E1 M1 hv hle => ?_)
                        · rw [mbind_eq] at hF hS
                          obtain ⟨hx, hM1⟩ := hv
                          have hM2 := hM1.symm
                          subst hM2
                          generalize hq_w80 : F_Ns_add cs n (cP 4 w74 M.2.1 1 (.int x2)) ((cQ (cP 4 w74 M.2.1 1 (.int x2)) a0 1).getD 0) (some M.2.1) = w80 at hF hS hx hle ⊢
                          cases hx
                          refine GW.eqs (st' := [.int w80.1]) rfl ?_
                          exact c_iret (M := w80.2) C hr hlocks hle d_N_atom_87 (by rw [← hF]; exact ⟨(if_pos rfl).symm, rfl⟩)
                        · cases hv.1
                      · rw [if_pos hc75] at hF hS
                        refine g_iconst (v := 0) C d_N_atom_71 (by decide) ?_
                        refine g_goto C 76 d_N_atom_72 (by decide) ?_
                        obtain ⟨ho81, hS⟩ := hS
                        refine k_put (M0 := M) (M := w74) C hE.1 (ci := 4) i_No rfl 1 (by decide) (by decide) kf_N_120 t_No t_No_ok n_No rfl (nf_i _) d_N_atom_76 ho81 ?_
                        replace hle := cLe.cP (ci := 4) (a := M.2.1) (k := 1) (v := .int 0) hle
                        refine g_aload_n C d_N_atom_79 rfl ?_
                        obtain ⟨ho82, hS⟩ := hS
                        refine c_getq C hE.1 (ci := 0) i_N rfl 1 (by decide) (by decide) (by decide) kf_N_19 d_N_atom_80 ho82 ?_
                        refine g_aload_n C d_N_atom_83 rfl ?_
                        obtain ⟨ho83, hS⟩ := hS
                        refine GW.known2 (a := (cQ (cP 4 w74 M.2.1 1 (.int 0)) a0 1).getD 0) (cOq.at ho83).1 ?_
                        obtain ⟨hs84, hS⟩ := hS
                        refine c_call (av := [.ref ((cQ (cP 4 w74 M.2.1 1 (.int 0)) a0 1).getD 0), .ref M.2.1]) (rest := []) C hE (fun _ h => h) ⟨rfl, rfl⟩ hle (cc_Ns_add l hf D cs B dE lim n _ ((cQ (cP 4 w74 M.2.1 1 (.int 0)) a0 1).getD 0) (some M.2.1) hs84) (fun _ h => h) kd_Ns_add ki_Ns (Nat.le_of_ble_eq_true rfl) (Nat.le_of_ble_eq_true rfl) d_N_atom_84 (Nat.le_of_ble_eq_true rfl) (c_fV (n := 1) (ci := 3) C hE.1 rfl km_N_124 kv_Ns_add kl_Ns_add kd_Ns_add ⟨by decide, by decide, by decide⟩ rfl rfl d_N_atom_84 (cOq.at ho83).2) (fun v1 M1 hv hle => ?_) (fun E1 M1 hv hle => ?_)
                        · rw [mbind_eq] at hF hS
                          obtain ⟨hx, hM1⟩ := hv
                          have hM2 := hM1.symm
                          subst hM2
                          generalize hq_w85 : F_Ns_add cs n (cP 4 w74 M.2.1 1 (.int 0)) ((cQ (cP 4 w74 M.2.1 1 (.int 0)) a0 1).getD 0) (some M.2.1) = w85 at hF hS hx hle ⊢
                          cases hx
                          refine GW.eqs (st' := [.int w85.1]) rfl ?_
                          exact c_iret (M := w85.2) C hr hlocks hle d_N_atom_87 (by rw [← hF]; exact ⟨(if_pos rfl).symm, rfl⟩)
                        · cases hv.1
                    · cases hv.1
                  · rw [if_neg h071] at hx
                    cases hx
                · rw [mbind_eq] at hF
                  obtain ⟨hx, hM1⟩ := hv
                  have hM2 := hM1.symm
                  subst hM2
                  generalize F_N_needRoom cs M a0  = w70 at hF hx hle ⊢
                  by_cases h071 : w70 = 0
                  · rw [if_pos h071] at hx
                    cases hx
                  · rw [if_neg h071] at hF hx hle
                    rw [if_neg h071]
                    cases hx
                    exact c_tleave (fun _ h => h.elim) hex hlocks hle (by rw [← hF]; exact ⟨by rw [if_neg h071], rfl⟩)
              · rw [if_neg h067] at hx
                cases hx
            · rw [mbind_eq] at hF
              obtain ⟨hx, hM1⟩ := hv
              have hM2 := hM1.symm
              subst hM2
              generalize F_N_needName cs M x2 = w66 at hF hx hle ⊢
              by_cases h067 : w66 = 0
              · rw [if_pos h067] at hx
                cases hx
              · rw [if_neg h067] at hF hx hle
                rw [if_neg h067]
                cases hx
                exact c_tleave (fun _ h => h.elim) hex hlocks hle (by rw [← hF]; exact ⟨by rw [if_neg h067], rfl⟩)
        · rw [if_neg hc45] at hF hS
          refine g_iload_n C d_N_atom_28 rfl ?_
          refine g_iconst (v := 1) C d_N_atom_29 (by decide) ?_
          refine g_icmp_eq C 43 d_N_atom_30 (by decide) (fun hc86 => ?_) (fun hc86 => ?_)
          · rw [if_pos hc86] at hF hS
            refine g_iload_n C d_N_atom_43 rfl ?_
            refine g_iconst (v := 3) C d_N_atom_44 (by decide) ?_
            refine g_icmp_ne C 52 d_N_atom_45 (by decide) (fun hc87 => ?_) (fun hc87 => ?_)
            · rw [if_neg hc87] at hF hS
              refine g_aload_n C d_N_atom_52 rfl ?_
              obtain ⟨ho88, hS⟩ := hS
              obtain ⟨hs89, hS⟩ := hS
              refine c_call (av := [.ref a0]) (rest := []) C hE (fun _ h => h.elim) ⟨rfl, rfl⟩ hle (cc_N_needRoom l hf D cs B dE lim _ a0  hs89) (fun _ h => h.elim) kd_N_needRoom ki_N (Nat.le_of_ble_eq_true rfl) (Nat.le_of_ble_eq_true rfl) d_N_atom_53 (Nat.le_of_ble_eq_true rfl) (c_fV (n := 0) (ci := 0) C hE.1 rfl km_N_113 kv_N_needRoom kl_N_needRoom kd_N_needRoom ⟨by decide, by decide, by decide⟩ rfl rfl d_N_atom_53 ho88) (fun v1 M1 hv hle => ?_) (fun E1 M1 hv hle => ?_)
              · rw [mbind_eq] at hF hS
                obtain ⟨hx, hM1⟩ := hv
                have hM2 := hM1.symm
                subst hM2
                generalize hq_w90 : F_N_needRoom cs M a0  = w90 at hF hS hx hle ⊢
                by_cases h091 : w90 = 0
                · rw [if_pos h091] at hF hS hx hle
                  rw [if_pos h091]
                  cases hx
                  refine GW.eqs (st' := []) rfl ?_
                  refine GW.more (A' := gA B) (fun _ h => h.elim) ?_
                  obtain ⟨hl92, hS⟩ := hS
                  refine c_new (M0 := M) (M := M) (ci := 4) (N := 11) (fs := [.int 0, .int 0, .int 0, .int 0, .int 0, .int 0, .int 0, .int 0, .int 0, .int 0, .int 0]) C hE.1 ⟨rfl, rfl⟩ hle i_No rfl t_No t_No_ok kc_N_116 kn_No ki_No (by decide) d_N_atom_56 hl92 (fun hle => ?_)
                  refine g_dup C d_N_atom_59 rfl ?_
                  refine g_iload_n C d_N_atom_60 rfl ?_
                  obtain ⟨hs93, hS⟩ := hS
                  refine c_call (av := [.ref M.2.1, .int x1]) (rest := [.ref M.2.1]) C hE (fun _ h => h) ⟨rfl, rfl⟩ hle (cc_No_init l hf D cs B dE lim _ M.2.1 x1 hs93) (fun _ h => h) kd_No_init ki_No (Nat.le_of_ble_eq_true rfl) (Nat.le_of_ble_eq_true rfl) d_N_atom_61 (Nat.le_of_ble_eq_true rfl) (c_fI (n := 1) C rfl km_N_118 kv_No_init kd_No_init ⟨by decide, by decide, by decide⟩ rfl rfl d_N_atom_61) (fun v1 M1 hv hle => ?_) (fun E1 M1 hv hle => ?_)
                  · rw [mbind_eq] at hF hS
                    obtain ⟨hx, hM1⟩ := hv
                    have hM2 := hM1.symm
                    subst hM2
                    generalize hq_w94 : F_No_init cs (gnw M (1, .inr (4, [.int 0, .int 0, .int 0, .int 0, .int 0, .int 0, .int 0, .int 0, .int 0, .int 0, .int 0])) 11) M.2.1 x1 = w94 at hF hS hx hle ⊢
                    cases hx
                    refine GW.eqs (st' := [.ref M.2.1]) rfl ?_
                    refine g_astore_n (lv' := [(3, .ref M.2.1), (0, .ref a0), (1, .int x1), (2, .int x2)]) C d_N_atom_64 (by decide) rfl ?_
                    refine g_aload_n C d_N_atom_65 rfl ?_
                    refine g_iload_n C d_N_atom_66 rfl ?_
                    refine g_iconst (v := 2) C d_N_atom_67 (by decide) ?_
                    refine g_icmp_ne C 75 d_N_atom_68 (by decide) (fun hc95 => ?_) (fun hc95 => ?_)
                    · rw [if_neg hc95] at hF hS
                      refine g_iload_n C d_N_atom_75 rfl ?_
                      obtain ⟨ho96, hS⟩ := hS
                      refine k_put (M0 := M) (M := w94) C hE.1 (ci := 4) i_No rfl 1 (by decide) (by decide) kf_N_120 t_No t_No_ok n_No rfl (nf_i _) d_N_atom_76 ho96 ?_
                      replace hle := cLe.cP (ci := 4) (a := M.2.1) (k := 1) (v := .int x2) hle
                      refine g_aload_n C d_N_atom_79 rfl ?_
                      obtain ⟨ho97, hS⟩ := hS
                      refine c_getq C hE.1 (ci := 0) i_N rfl 1 (by decide) (by decide) (by decide) kf_N_19 d_N_atom_80 ho97 ?_
                      refine g_aload_n C d_N_atom_83 rfl ?_
                      obtain ⟨ho98, hS⟩ := hS
                      refine GW.known2 (a := (cQ (cP 4 w94 M.2.1 1 (.int x2)) a0 1).getD 0) (cOq.at ho98).1 ?_
                      obtain ⟨hs99, hS⟩ := hS
                      refine c_call (av := [.ref ((cQ (cP 4 w94 M.2.1 1 (.int x2)) a0 1).getD 0), .ref M.2.1]) (rest := []) C hE (fun _ h => h) ⟨rfl, rfl⟩ hle (cc_Ns_add l hf D cs B dE lim n _ ((cQ (cP 4 w94 M.2.1 1 (.int x2)) a0 1).getD 0) (some M.2.1) hs99) (fun _ h => h) kd_Ns_add ki_Ns (Nat.le_of_ble_eq_true rfl) (Nat.le_of_ble_eq_true rfl) d_N_atom_84 (Nat.le_of_ble_eq_true rfl) (c_fV (n := 1) (ci := 3) C hE.1 rfl km_N_124 kv_Ns_add kl_Ns_add kd_Ns_add ⟨by decide, by decide, by decide⟩ rfl rfl d_N_atom_84 (cOq.at ho98).2) (fun v1 M1 hv hle => ?_) (fun E1 M1 hv hle => ?_)
                      · rw [mbind_eq] at hF hS
                        obtain ⟨hx, hM1⟩ := hv
                        have hM2 := hM1.symm
                        subst hM2
                        generalize hq_w100 : F_Ns_add cs n (cP 4 w94 M.2.1 1 (.int x2)) ((cQ (cP 4 w94 M.2.1 1 (.int x2)) a0 1).getD 0) (some M.2.1) = w100 at hF hS hx hle ⊢
                        cases hx
                        refine GW.eqs (st' := [.int w100.1]) rfl ?_
                        exact c_iret (M := w100.2) C hr hlocks hle d_N_atom_87 (by rw [← hF]; exact ⟨(if_pos rfl).symm, rfl⟩)
                      · cases hv.1
                    · rw [if_pos hc95] at hF hS
                      refine g_iconst (v := 0) C d_N_atom_71 (by decide) ?_
                      refine g_goto C 76 d_N_atom_72 (by decide) ?_
                      obtain ⟨ho101, hS⟩ := hS
                      refine k_put (M0 := M) (M := w94) C hE.1 (ci := 4) i_No rfl 1 (by decide) (by decide) kf_N_120 t_No t_No_ok n_No rfl (nf_i _) d_N_atom_76 ho101 ?_
                      replace hle := cLe.cP (ci := 4) (a := M.2.1) (k := 1) (v := .int 0) hle
                      refine g_aload_n C d_N_atom_79 rfl ?_
                      obtain ⟨ho102, hS⟩ := hS
                      refine c_getq C hE.1 (ci := 0) i_N rfl 1 (by decide) (by decide) (by decide) kf_N_19 d_N_atom_80 ho102 ?_
                      refine g_aload_n C d_N_atom_83 rfl ?_
                      obtain ⟨ho103, hS⟩ := hS
                      refine GW.known2 (a := (cQ (cP 4 w94 M.2.1 1 (.int 0)) a0 1).getD 0) (cOq.at ho103).1 ?_
                      obtain ⟨hs104, hS⟩ := hS
                      refine c_call (av := [.ref ((cQ (cP 4 w94 M.2.1 1 (.int 0)) a0 1).getD 0), .ref M.2.1]) (rest := []) C hE (fun _ h => h) ⟨rfl, rfl⟩ hle (cc_Ns_add l hf D cs B dE lim n _ ((cQ (cP 4 w94 M.2.1 1 (.int 0)) a0 1).getD 0) (some M.2.1) hs104) (fun _ h => h) kd_Ns_add ki_Ns (Nat.le_of_ble_eq_true rfl) (Nat.le_of_ble_eq_true rfl) d_N_atom_84 (Nat.le_of_ble_eq_true rfl) (c_fV (n := 1) (ci := 3) C hE.1 rfl km_N_124 kv_Ns_add kl_Ns_add kd_Ns_add ⟨by decide, by decide, by decide⟩ rfl rfl d_N_atom_84 (cOq.at ho103).2) (fun v1 M1 hv hle => ?_) (fun E1 M1 hv hle => ?_)
                      · rw [mbind_eq] at hF hS
                        obtain ⟨hx, hM1⟩ := hv
                        have hM2 := hM1.symm
                        subst hM2
                        generalize hq_w105 : F_Ns_add cs n (cP 4 w94 M.2.1 1 (.int 0)) ((cQ (cP 4 w94 M.2.1 1 (.int 0)) a0 1).getD 0) (some M.2.1) = w105 at hF hS hx hle ⊢
                        cases hx
                        refine GW.eqs (st' := [.int w105.1]) rfl ?_
                        exact c_iret (M := w105.2) C hr hlocks hle d_N_atom_87 (by rw [← hF]; exact ⟨(if_pos rfl).symm, rfl⟩)
                      · cases hv.1
                  · cases hv.1
                · rw [if_neg h091] at hx
                  cases hx
              · rw [mbind_eq] at hF
                obtain ⟨hx, hM1⟩ := hv
                have hM2 := hM1.symm
                subst hM2
                generalize F_N_needRoom cs M a0  = w90 at hF hx hle ⊢
                by_cases h091 : w90 = 0
                · rw [if_pos h091] at hx
                  cases hx
                · rw [if_neg h091] at hF hx hle
                  rw [if_neg h091]
                  cases hx
                  exact c_tleave (fun _ h => h.elim) hex hlocks hle (by rw [← hF]; exact ⟨by rw [if_neg h091], rfl⟩)
            · rw [if_pos hc87] at hF hS
              refine g_iload_n C d_N_atom_48 rfl ?_
              obtain ⟨hs106, hS⟩ := hS
              refine c_call (av := [.int x2]) (rest := []) C hE (fun _ h => h.elim) ⟨rfl, rfl⟩ hle (cc_N_needName l hf D cs B dE lim _ x2 hs106) (fun _ h => h.elim) kd_N_needName ki_N (Nat.le_of_ble_eq_true rfl) (Nat.le_of_ble_eq_true rfl) d_N_atom_49 (Nat.le_of_ble_eq_true rfl) (c_fS (n := 1) C km_N_110 ks_N_needName ki_N kd_N_needName ⟨by decide, by decide, by decide⟩ rfl rfl d_N_atom_49) (fun v1 M1 hv hle => ?_) (fun E1 M1 hv hle => ?_)
              · rw [mbind_eq] at hF hS
                obtain ⟨hx, hM1⟩ := hv
                have hM2 := hM1.symm
                subst hM2
                generalize hq_w107 : F_N_needName cs M x2 = w107 at hF hS hx hle ⊢
                by_cases h0108 : w107 = 0
                · rw [if_pos h0108] at hF hS hx hle
                  rw [if_pos h0108]
                  cases hx
                  refine GW.eqs (st' := []) rfl ?_
                  refine g_aload_n C d_N_atom_52 rfl ?_
                  obtain ⟨ho109, hS⟩ := hS
                  obtain ⟨hs110, hS⟩ := hS
                  refine c_call (av := [.ref a0]) (rest := []) C hE (fun _ h => h.elim) ⟨rfl, rfl⟩ hle (cc_N_needRoom l hf D cs B dE lim _ a0  hs110) (fun _ h => h.elim) kd_N_needRoom ki_N (Nat.le_of_ble_eq_true rfl) (Nat.le_of_ble_eq_true rfl) d_N_atom_53 (Nat.le_of_ble_eq_true rfl) (c_fV (n := 0) (ci := 0) C hE.1 rfl km_N_113 kv_N_needRoom kl_N_needRoom kd_N_needRoom ⟨by decide, by decide, by decide⟩ rfl rfl d_N_atom_53 ho109) (fun v1 M1 hv hle => ?_) (fun E1 M1 hv hle => ?_)
                  · rw [mbind_eq] at hF hS
                    obtain ⟨hx, hM1⟩ := hv
                    have hM2 := hM1.symm
                    subst hM2
                    generalize hq_w111 : F_N_needRoom cs M a0  = w111 at hF hS hx hle ⊢
                    by_cases h0112 : w111 = 0
                    · rw [if_pos h0112] at hF hS hx hle
                      rw [if_pos h0112]
                      cases hx
                      refine GW.eqs (st' := []) rfl ?_
                      refine GW.more (A' := gA B) (fun _ h => h.elim) ?_
                      obtain ⟨hl113, hS⟩ := hS
                      refine c_new (M0 := M) (M := M) (ci := 4) (N := 11) (fs := [.int 0, .int 0, .int 0, .int 0, .int 0, .int 0, .int 0, .int 0, .int 0, .int 0, .int 0]) C hE.1 ⟨rfl, rfl⟩ hle i_No rfl t_No t_No_ok kc_N_116 kn_No ki_No (by decide) d_N_atom_56 hl113 (fun hle => ?_)
                      refine g_dup C d_N_atom_59 rfl ?_
                      refine g_iload_n C d_N_atom_60 rfl ?_
                      obtain ⟨hs114, hS⟩ := hS
                      refine c_call (av := [.ref M.2.1, .int x1]) (rest := [.ref M.2.1]) C hE (fun _ h => h) ⟨rfl, rfl⟩ hle (cc_No_init l hf D cs B dE lim _ M.2.1 x1 hs114) (fun _ h => h) kd_No_init ki_No (Nat.le_of_ble_eq_true rfl) (Nat.le_of_ble_eq_true rfl) d_N_atom_61 (Nat.le_of_ble_eq_true rfl) (c_fI (n := 1) C rfl km_N_118 kv_No_init kd_No_init ⟨by decide, by decide, by decide⟩ rfl rfl d_N_atom_61) (fun v1 M1 hv hle => ?_) (fun E1 M1 hv hle => ?_)
                      · rw [mbind_eq] at hF hS
                        obtain ⟨hx, hM1⟩ := hv
                        have hM2 := hM1.symm
                        subst hM2
                        generalize hq_w115 : F_No_init cs (gnw M (1, .inr (4, [.int 0, .int 0, .int 0, .int 0, .int 0, .int 0, .int 0, .int 0, .int 0, .int 0, .int 0])) 11) M.2.1 x1 = w115 at hF hS hx hle ⊢
                        cases hx
                        refine GW.eqs (st' := [.ref M.2.1]) rfl ?_
                        refine g_astore_n (lv' := [(3, .ref M.2.1), (0, .ref a0), (1, .int x1), (2, .int x2)]) C d_N_atom_64 (by decide) rfl ?_
                        refine g_aload_n C d_N_atom_65 rfl ?_
                        refine g_iload_n C d_N_atom_66 rfl ?_
                        refine g_iconst (v := 2) C d_N_atom_67 (by decide) ?_
                        refine g_icmp_ne C 75 d_N_atom_68 (by decide) (fun hc116 => ?_) (fun hc116 => ?_)
                        · rw [if_neg hc116] at hF hS
                          refine g_iload_n C d_N_atom_75 rfl ?_
                          obtain ⟨ho117, hS⟩ := hS
                          refine k_put (M0 := M) (M := w115) C hE.1 (ci := 4) i_No rfl 1 (by decide) (by decide) kf_N_120 t_No t_No_ok n_No rfl (nf_i _) d_N_atom_76 ho117 ?_
                          replace hle := cLe.cP (ci := 4) (a := M.2.1) (k := 1) (v := .int x2) hle
                          refine g_aload_n C d_N_atom_79 rfl ?_
                          obtain ⟨ho118, hS⟩ := hS
                          refine c_getq C hE.1 (ci := 0) i_N rfl 1 (by decide) (by decide) (by decide) kf_N_19 d_N_atom_80 ho118 ?_
                          refine g_aload_n C d_N_atom_83 rfl ?_
                          obtain ⟨ho119, hS⟩ := hS
                          refine GW.known2 (a := (cQ (cP 4 w115 M.2.1 1 (.int x2)) a0 1).getD 0) (cOq.at ho119).1 ?_
                          obtain ⟨hs120, hS⟩ := hS
                          refine c_call (av := [.ref ((cQ (cP 4 w115 M.2.1 1 (.int x2)) a0 1).getD 0), .ref M.2.1]) (rest := []) C hE (fun _ h => h) ⟨rfl, rfl⟩ hle (cc_Ns_add l hf D cs B dE lim n _ ((cQ (cP 4 w115 M.2.1 1 (.int x2)) a0 1).getD 0) (some M.2.1) hs120) (fun _ h => h) kd_Ns_add ki_Ns (Nat.le_of_ble_eq_true rfl) (Nat.le_of_ble_eq_true rfl) d_N_atom_84 (Nat.le_of_ble_eq_true rfl) (c_fV (n := 1) (ci := 3) C hE.1 rfl km_N_124 kv_Ns_add kl_Ns_add kd_Ns_add ⟨by decide, by decide, by decide⟩ rfl rfl d_N_atom_84 (cOq.at ho119).2) (fun v1 M1 hv hle => ?_) (fun E1 M1 hv hle => ?_)
                          · rw [mbind_eq] at hF hS
                            obtain ⟨hx, hM1⟩ := hv
                            have hM2 := hM1.symm
                            subst hM2
                            generalize hq_w121 : F_Ns_add cs n (cP 4 w115 M.2.1 1 (.int x2)) ((cQ (cP 4 w115 M.2.1 1 (.int x2)) a0 1).getD 0) (some M.2.1) = w121 at hF hS hx hle ⊢
                            cases hx
                            refine GW.eqs (st' := [.int w121.1]) rfl ?_
                            exact c_iret (M := w121.2) C hr hlocks hle d_N_atom_87 (by rw [← hF]; exact ⟨(if_pos rfl).symm, rfl⟩)
                          · cases hv.1
                        · rw [if_pos hc116] at hF hS
                          refine g_iconst (v := 0) C d_N_atom_71 (by decide) ?_
                          refine g_goto C 76 d_N_atom_72 (by decide) ?_
                          obtain ⟨ho122, hS⟩ := hS
                          refine k_put (M0 := M) (M := w115) C hE.1 (ci := 4) i_No rfl 1 (by decide) (by decide) kf_N_120 t_No t_No_ok n_No rfl (nf_i _) d_N_atom_76 ho122 ?_
                          replace hle := cLe.cP (ci := 4) (a := M.2.1) (k := 1) (v := .int 0) hle
                          refine g_aload_n C d_N_atom_79 rfl ?_
                          obtain ⟨ho123, hS⟩ := hS
                          refine c_getq C hE.1 (ci := 0) i_N rfl 1 (by decide) (by decide) (by decide) kf_N_19 d_N_atom_80 ho123 ?_
                          refine g_aload_n C d_N_atom_83 rfl ?_
                          obtain ⟨ho124, hS⟩ := hS
                          refine GW.known2 (a := (cQ (cP 4 w115 M.2.1 1 (.int 0)) a0 1).getD 0) (cOq.at ho124).1 ?_
                          obtain ⟨hs125, hS⟩ := hS
                          refine c_call (av := [.ref ((cQ (cP 4 w115 M.2.1 1 (.int 0)) a0 1).getD 0), .ref M.2.1]) (rest := []) C hE (fun _ h => h) ⟨rfl, rfl⟩ hle (cc_Ns_add l hf D cs B dE lim n _ ((cQ (cP 4 w115 M.2.1 1 (.int 0)) a0 1).getD 0) (some M.2.1) hs125) (fun _ h => h) kd_Ns_add ki_Ns (Nat.le_of_ble_eq_true rfl) (Nat.le_of_ble_eq_true rfl) d_N_atom_84 (Nat.le_of_ble_eq_true rfl) (c_fV (n := 1) (ci := 3) C hE.1 rfl km_N_124 kv_Ns_add kl_Ns_add kd_Ns_add ⟨by decide, by decide, by decide⟩ rfl rfl d_N_atom_84 (cOq.at ho124).2) (fun v1 M1 hv hle => ?_) (fun E1 M1 hv hle => ?_)
                          · rw [mbind_eq] at hF hS
                            obtain ⟨hx, hM1⟩ := hv
                            have hM2 := hM1.symm
                            subst hM2
                            generalize hq_w126 : F_Ns_add cs n (cP 4 w115 M.2.1 1 (.int 0)) ((cQ (cP 4 w115 M.2.1 1 (.int 0)) a0 1).getD 0) (some M.2.1) = w126 at hF hS hx hle ⊢
                            cases hx
                            refine GW.eqs (st' := [.int w126.1]) rfl ?_
                            exact c_iret (M := w126.2) C hr hlocks hle d_N_atom_87 (by rw [← hF]; exact ⟨(if_pos rfl).symm, rfl⟩)
                          · cases hv.1
                      · cases hv.1
                    · rw [if_neg h0112] at hx
                      cases hx
                  · rw [mbind_eq] at hF
                    obtain ⟨hx, hM1⟩ := hv
                    have hM2 := hM1.symm
                    subst hM2
                    generalize F_N_needRoom cs M a0  = w111 at hF hx hle ⊢
                    by_cases h0112 : w111 = 0
                    · rw [if_pos h0112] at hx
                      cases hx
                    · rw [if_neg h0112] at hF hx hle
                      rw [if_neg h0112]
                      cases hx
                      exact c_tleave (fun _ h => h.elim) hex hlocks hle (by rw [← hF]; exact ⟨by rw [if_neg h0112], rfl⟩)
                · rw [if_neg h0108] at hx
                  cases hx
              · rw [mbind_eq] at hF
                obtain ⟨hx, hM1⟩ := hv
                have hM2 := hM1.symm
                subst hM2
                generalize F_N_needName cs M x2 = w107 at hF hx hle ⊢
                by_cases h0108 : w107 = 0
                · rw [if_pos h0108] at hx
                  cases hx
                · rw [if_neg h0108] at hF hx hle
                  rw [if_neg h0108]
                  cases hx
                  exact c_tleave (fun _ h => h.elim) hex hlocks hle (by rw [← hF]; exact ⟨by rw [if_neg h0108], rfl⟩)
          · rw [if_neg hc86] at hF hS
            obtain ⟨hl127, hS⟩ := hS
            exact c_throw C hf hex hlocks hR0 hl127 (gAts_of C hE (by decide +kernel) (by decide +kernel) ats_Ix) (gE_st hE kq_N_108) kc_N_103 kn_Ix ki_Ix ⟨rfl, rfl⟩ d_N_atom_33 d_N_atom_36 d_N_atom_37 d_N_atom_39 d_N_atom_42 (Nat.le_of_ble_eq_true rfl) (Nat.le_of_ble_eq_true rfl) (by rw [← hF]; exact ⟨rfl, rfl⟩)
    · rw [if_neg hc3] at hF hS
      obtain ⟨hl128, hS⟩ := hS
      exact c_throw C hf hex hlocks hR0 hl128 (gAts_of C hE (by decide +kernel) (by decide +kernel) ats_Ix) (gE_st hE kq_N_105) kc_N_103 kn_Ix ki_Ix ⟨rfl, rfl⟩ d_N_atom_9 d_N_atom_12 d_N_atom_13 d_N_atom_15 d_N_atom_18 (Nat.le_of_ble_eq_true rfl) (Nat.le_of_ble_eq_true rfl) (by rw [← hF]; exact ⟨rfl, rfl⟩)
def F_N_needNode (cs : Nat → ClassId) (M : gMem) (a0 : Nat) (x1 : Int32) : Nat := mbind (F_Ns_has cs M ((cQ M a0 1).getD 0) x1) (fun w4 => if w4 = 0 then (1) else (0))
def S_N_needNode (cs : Nat → ClassId) (lim : Nat × Nat) (M : gMem) (a0 : Nat) (x1 : Int32) : Prop := (cOk 0 M a0) ∧ ((cOq 3 M (cQ M a0 1)) ∧ ((S_Ns_has cs lim M ((cQ M a0 1).getD 0) x1) ∧ (mbind (F_Ns_has cs M ((cQ M a0 1).getD 0) x1) (fun w4 => if w4 = 0 then ((M.2.1 + 1 ≤ lim.1 ∧ M.2.2 + 6 ≤ lim.2) ∧ (True)) else (True)))))
set_option maxRecDepth 100000 in
set_option maxHeartbeats 4000000 in
theorem cc_N_needNode (l : Launch) (hf : l.flags = pinnedFlags ++ [noTraceFlag]) (D : va_G) (cs : Nat → ClassId) (B : Nat) (dE : Nat × Nat) (lim : Nat × Nat) (M : gMem) (a0 : Nat) (x1 : Int32) (hS : S_N_needNode cs lim M a0 x1) : cMet l y_N_needNode (Cond.code y_N_needNode c_N_needNode 2 none) (6) (100) D cs B dE (fun _ => False) lim [.ref a0, .int x1] M (fun x M' => x = (if (F_N_needNode cs M a0 x1) = 0 then .inl none else .inr (exn (F_N_needNode cs M a0 x1))) ∧ M' = if (F_N_needNode cs M a0 x1) = 0 then M else gsk M) := by
  refine cMet.ofW (by decide) (Nat.le_of_ble_eq_true rfl) (lv0 := [(0, .ref a0), (1, .int x1)]) rfl ?_
  intro p e s m args below meth c C hE hR0 hle hr hlocks hex hn
  generalize hF : F_N_needNode cs M a0 x1 = Fv
  unfold F_N_needNode at hF
  unfold S_N_needNode at hS
  refine g_aload_n C d_N_needNode_0 rfl ?_
  obtain ⟨ho1, hS⟩ := hS
  refine c_getq C hE.1 (ci := 0) i_N rfl 1 (by decide) (by decide) (by decide) kf_N_19 d_N_needNode_1 ho1 ?_
  refine g_iload_n C d_N_needNode_4 rfl ?_
  obtain ⟨ho2, hS⟩ := hS
  refine GW.known2 (a := (cQ M a0 1).getD 0) (cOq.at ho2).1 ?_
  obtain ⟨hs3, hS⟩ := hS
  refine c_call (av := [.ref ((cQ M a0 1).getD 0), .int x1]) (rest := []) C hE (fun _ h => h.elim) ⟨rfl, rfl⟩ hle (cc_Ns_has l hf D cs B dE lim _ ((cQ M a0 1).getD 0) x1 hs3) (fun _ h => h.elim) kd_Ns_has ki_Ns (Nat.le_of_ble_eq_true rfl) (Nat.le_of_ble_eq_true rfl) d_N_needNode_5 (Nat.le_of_ble_eq_true rfl) (c_fV (n := 1) (ci := 3) C hE.1 rfl km_N_260 kv_Ns_has kl_Ns_has kd_Ns_has ⟨by decide, by decide, by decide⟩ rfl rfl d_N_needNode_5 (cOq.at ho2).2) (fun v1 M1 hv hle => ?_) (fun E1 M1 hv hle => ?_)
  · rw [mbind_eq] at hF hS
    obtain ⟨hx, hM1⟩ := hv
    have hM2 := hM1.symm
    subst hM2
    generalize hq_w4 : F_Ns_has cs M ((cQ M a0 1).getD 0) x1 = w4 at hF hS hx hle ⊢
    cases hx
    refine GW.eqs (st' := [.int w4]) rfl ?_
    refine g_if_ne C 22 d_N_needNode_8 (by decide) (fun hc5 => ?_) (fun hc5 => ?_)
    · rw [if_neg hc5] at hF hS
      exact c_vret (M := M) C hr hlocks hle d_N_needNode_22 (by rw [← hF]; exact ⟨(if_pos rfl).symm, (if_pos rfl).symm⟩)
    · rw [if_pos hc5] at hF hS
      obtain ⟨hl6, hS⟩ := hS
      exact c_throwW C hf hex hlocks hR0 hl6 (gAts_of C hE (by decide +kernel) (by decide +kernel) ats_Ix) (gE_st hE kq_N_263) kc_N_103 kn_Ix ki_Ix ⟨rfl, rfl⟩ d_N_needNode_11 d_N_needNode_14 d_N_needNode_15 d_N_needNode_18 d_N_needNode_21 (Nat.le_of_ble_eq_true rfl) (Nat.le_of_ble_eq_true rfl) (by rw [← hF]; exact ⟨rfl, rfl⟩)
  · cases hv.1
