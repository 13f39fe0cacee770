def F_N_let (cs : Nat → ClassId) (n : Nat) (M : gMem) (a0 : Nat) (x1 : Int32) (x2 : Int32) (x3 : Int32) : Nat × Int32 × gMem := mbind (F_N_needName cs M x1) (fun w2 => if w2 = 0 then (mbind (F_N_needNode cs M a0 x2) (fun w6 => if w6 = 0 then (mbind (F_N_needNode cs M a0 x3) (fun w10 => if w10 = 0 then (mbind (F_N_needRoom cs M a0 ) (fun w14 => if w14 = 0 then (mbind (F_No_init cs (gnw M (1, .inr (4, [.int 0, .int 0, .int 0, .int 0, .int 0, .int 0, .int 0, .int 0, .int 0, .int 0, .int 0])) 11) M.2.1 4) (fun w18 => mbind (F_Ns_add cs n (cP 4 (cP 4 (cP 4 w18 M.2.1 2 (.int x1)) M.2.1 4 (.int x2)) M.2.1 5 (.int x3)) ((cQ (cP 4 (cP 4 (cP 4 w18 M.2.1 2 (.int x1)) M.2.1 4 (.int x2)) M.2.1 5 (.int x3)) a0 1).getD 0) (some M.2.1)) (fun w25 => (0, w25.1, w25.2)))) else ((w14, 0, gsk M)))) else ((w10, 0, gsk M)))) else ((w6, 0, gsk M)))) else ((w2, 0, gsk M)))
def S_N_let (cs : Nat → ClassId) (lim : Nat × Nat) (n : Nat) (M : gMem) (a0 : Nat) (x1 : Int32) (x2 : Int32) (x3 : Int32) : Prop := (S_N_needName cs lim M x1) ∧ (mbind (F_N_needName cs M x1) (fun w2 => if w2 = 0 then ((cOk 0 M a0) ∧ ((S_N_needNode cs lim M a0 x2) ∧ (mbind (F_N_needNode cs M a0 x2) (fun w6 => if w6 = 0 then ((cOk 0 M a0) ∧ ((S_N_needNode cs lim M a0 x3) ∧ (mbind (F_N_needNode cs M a0 x3) (fun w10 => if w10 = 0 then ((cOk 0 M a0) ∧ ((S_N_needRoom cs lim M a0 ) ∧ (mbind (F_N_needRoom cs M a0 ) (fun w14 => if w14 = 0 then ((M.2.1 + 1 ≤ lim.1 ∧ M.2.2 + 11 ≤ lim.2) ∧ ((S_No_init cs lim (gnw M (1, .inr (4, [.int 0, .int 0, .int 0, .int 0, .int 0, .int 0, .int 0, .int 0, .int 0, .int 0, .int 0])) 11) M.2.1 4) ∧ (mbind (F_No_init cs (gnw M (1, .inr (4, [.int 0, .int 0, .int 0, .int 0, .int 0, .int 0, .int 0, .int 0, .int 0, .int 0, .int 0])) 11) M.2.1 4) (fun w18 => (cOk 4 w18 M.2.1) ∧ ((cOk 4 (cP 4 w18 M.2.1 2 (.int x1)) M.2.1) ∧ ((cOk 4 (cP 4 (cP 4 w18 M.2.1 2 (.int x1)) M.2.1 4 (.int x2)) M.2.1) ∧ ((cOk 0 (cP 4 (cP 4 (cP 4 w18 M.2.1 2 (.int x1)) M.2.1 4 (.int x2)) M.2.1 5 (.int x3)) a0) ∧ ((cOq 3 (cP 4 (cP 4 (cP 4 w18 M.2.1 2 (.int x1)) M.2.1 4 (.int x2)) M.2.1 5 (.int x3)) (cQ (cP 4 (cP 4 (cP 4 w18 M.2.1 2 (.int x1)) M.2.1 4 (.int x2)) M.2.1 5 (.int x3)) a0 1)) ∧ ((S_Ns_add cs lim n (cP 4 (cP 4 (cP 4 w18 M.2.1 2 (.int x1)) M.2.1 4 (.int x2)) M.2.1 5 (.int x3)) ((cQ (cP 4 (cP 4 (cP 4 w18 M.2.1 2 (.int x1)) M.2.1 4 (.int x2)) M.2.1 5 (.int x3)) a0 1).getD 0) (some M.2.1)) ∧ (mbind (F_Ns_add cs n (cP 4 (cP 4 (cP 4 w18 M.2.1 2 (.int x1)) M.2.1 4 (.int x2)) M.2.1 5 (.int x3)) ((cQ (cP 4 (cP 4 (cP 4 w18 M.2.1 2 (.int x1)) M.2.1 4 (.int x2)) M.2.1 5 (.int x3)) a0 1).getD 0) (some M.2.1)) (fun w25 => True))))))))))) else (True))))) else (True))))) else (True))))) else (True)))
set_option maxRecDepth 100000 in
set_option maxHeartbeats 4000000 in
theorem cc_N_let (l : Launch) (hf : l.flags = pinnedFlags ++ [noTraceFlag]) (D : va_G) (cs : Nat → ClassId) (B : Nat) (dE : Nat × Nat) (lim : Nat × Nat) (n : Nat) (M : gMem) (a0 : Nat) (x1 : Int32) (x2 : Int32) (x3 : Int32) (hS : S_N_let cs lim n M a0 x1 x2 x3) : cMet l y_N_let (Cond.code y_N_let c_N_let 5 (some .int)) (7) (121) D cs B dE (gA B) lim [.ref a0, .int x1, .int x2, .int x3] M (fun x M' => x = (if (F_N_let cs n M a0 x1 x2 x3).1 = 0 then .inl (some (.int ((F_N_let cs n M a0 x1 x2 x3).2.1))) else .inr (exn (F_N_let cs n M a0 x1 x2 x3).1)) ∧ M' = (F_N_let cs n M a0 x1 x2 x3).2.2) := by
  refine cMet.ofW (by decide) (Nat.le_of_ble_eq_true rfl) (lv0 := [(0, .ref a0), (1, .int x1), (2, .int x2), (3, .int x3)]) rfl ?_
  intro p e s m args below meth c C hE hR0 hle hr hlocks hex hn
  generalize hF : F_N_let cs n M a0 x1 x2 x3 = Fv
  unfold F_N_let at hF
  unfold S_N_let at hS
  refine g_iload_n C d_N_let_0 rfl ?_
  obtain ⟨hs1, hS⟩ := hS
  refine c_call (av := [.int x1]) (rest := []) C hE (fun _ h => h.elim) ⟨rfl, rfl⟩ hle (cc_N_needName l hf D cs B dE lim _ x1 hs1) (fun _ h => h.elim) kd_N_needName ki_N (Nat.le_of_ble_eq_true rfl) (Nat.le_of_ble_eq_true rfl) d_N_let_1 (Nat.le_of_ble_eq_true rfl) (c_fS (n := 1) C km_N_110 ks_N_needName ki_N kd_N_needName ⟨by decide, by decide, by decide⟩ rfl rfl d_N_let_1) (fun v1 M1 hv hle => ?_) (fun E1 M1 hv hle => ?_)
  · rw [mbind_eq] at hF hS
    obtain ⟨hx, hM1⟩ := hv
    have hM2 := hM1.symm
    subst hM2
    generalize hq_w2 : F_N_needName cs M x1 = w2 at hF hS hx hle ⊢
    by_cases h03 : w2 = 0
    · rw [if_pos h03] at hF hS hx hle
      rw [if_pos h03]
      cases hx
      refine GW.eqs (st' := []) rfl ?_
      refine g_aload_n C d_N_let_4 rfl ?_
      refine g_iload_n C d_N_let_5 rfl ?_
      obtain ⟨ho4, hS⟩ := hS
      obtain ⟨hs5, hS⟩ := hS
      refine c_call (av := [.ref a0, .int x2]) (rest := []) C hE (fun _ h => h.elim) ⟨rfl, rfl⟩ hle (cc_N_needNode l hf D cs B dE lim _ a0 x2 hs5) (fun _ h => h.elim) kd_N_needNode ki_N (Nat.le_of_ble_eq_true rfl) (Nat.le_of_ble_eq_true rfl) d_N_let_6 (Nat.le_of_ble_eq_true rfl) (c_fV (n := 1) (ci := 0) C hE.1 rfl km_N_128 kv_N_needNode kl_N_needNode kd_N_needNode ⟨by decide, by decide, by decide⟩ rfl rfl d_N_let_6 ho4) (fun v1 M1 hv hle => ?_) (fun E1 M1 hv hle => ?_)
      · rw [mbind_eq] at hF hS
        obtain ⟨hx, hM1⟩ := hv
        have hM2 := hM1.symm
        subst hM2
        generalize hq_w6 : F_N_needNode cs M a0 x2 = w6 at hF hS hx hle ⊢
        by_cases h07 : w6 = 0
        · rw [if_pos h07] at hF hS hx hle
          rw [if_pos h07]
          cases hx
          refine GW.eqs (st' := []) rfl ?_
          refine g_aload_n C d_N_let_9 rfl ?_
          refine g_iload_n C d_N_let_10 rfl ?_
          obtain ⟨ho8, hS⟩ := hS
          obtain ⟨hs9, hS⟩ := hS
          refine c_call (av := [.ref a0, .int x3]) (rest := []) C hE (fun _ h => h.elim) ⟨rfl, rfl⟩ hle (cc_N_needNode l hf D cs B dE lim _ a0 x3 hs9) (fun _ h => h.elim) kd_N_needNode ki_N (Nat.le_of_ble_eq_true rfl) (Nat.le_of_ble_eq_true rfl) d_N_let_11 (Nat.le_of_ble_eq_true rfl) (c_fV (n := 1) (ci := 0) C hE.1 rfl km_N_128 kv_N_needNode kl_N_needNode kd_N_needNode ⟨by decide, by decide, by decide⟩ rfl rfl d_N_let_11 ho8) (fun v1 M1 hv hle => ?_) (fun E1 M1 hv hle => ?_)
          · rw [mbind_eq] at hF hS
            obtain ⟨hx, hM1⟩ := hv
            have hM2 := hM1.symm
            subst hM2
            generalize hq_w10 : F_N_needNode cs M a0 x3 = w10 at hF hS hx hle ⊢
            by_cases h011 : w10 = 0
            · rw [if_pos h011] at hF hS hx hle
              rw [if_pos h011]
              cases hx
              refine GW.eqs (st' := []) rfl ?_
              refine g_aload_n C d_N_let_14 rfl ?_
              obtain ⟨ho12, hS⟩ := hS
              obtain ⟨hs13, hS⟩ := hS
              refine c_call (av := [.ref a0]) (rest := []) C hE (fun _ h => h.elim) ⟨rfl, rfl⟩ hle (cc_N_needRoom l hf D cs B dE lim _ a0  hs13) (fun _ h => h.elim) kd_N_needRoom ki_N (Nat.le_of_ble_eq_true rfl) (Nat.le_of_ble_eq_true rfl) d_N_let_15 (Nat.le_of_ble_eq_true rfl) (c_fV (n := 0) (ci := 0) C hE.1 rfl km_N_113 kv_N_needRoom kl_N_needRoom kd_N_needRoom ⟨by decide, by decide, by decide⟩ rfl rfl d_N_let_15 ho12) (fun v1 M1 hv hle => ?_) (fun E1 M1 hv hle => ?_)
              · rw [mbind_eq] at hF hS
                obtain ⟨hx, hM1⟩ := hv
                have hM2 := hM1.symm
                subst hM2
                generalize hq_w14 : F_N_needRoom cs M a0  = w14 at hF hS hx hle ⊢
                by_cases h015 : w14 = 0
                · rw [if_pos h015] at hF hS hx hle
                  rw [if_pos h015]
                  cases hx
                  refine GW.eqs (st' := []) rfl ?_
                  refine GW.more (A' := gA B) (fun _ h => h.elim) ?_
                  obtain ⟨hl16, hS⟩ := hS
                  refine c_new (M0 := M) (M := M) (ci := 4) (N := 11) (fs := [.int 0, .int 0, .int 0, .int 0, .int 0, .int 0, .int 0, .int 0, .int 0, .int 0, .int 0]) C hE.1 ⟨rfl, rfl⟩ hle i_No rfl t_No t_No_ok kc_N_116 kn_No ki_No (by decide) d_N_let_18 hl16 (fun hle => ?_)
                  refine g_dup C d_N_let_21 rfl ?_
                  refine g_iconst (v := 4) C d_N_let_22 (by decide) ?_
                  obtain ⟨hs17, hS⟩ := hS
                  refine c_call (av := [.ref M.2.1, .int 4]) (rest := [.ref M.2.1]) C hE (fun _ h => h) ⟨rfl, rfl⟩ hle (cc_No_init l hf D cs B dE lim _ M.2.1 4 hs17) (fun _ h => h) kd_No_init ki_No (Nat.le_of_ble_eq_true rfl) (Nat.le_of_ble_eq_true rfl) d_N_let_23 (Nat.le_of_ble_eq_true rfl) (c_fI (n := 1) C rfl km_N_118 kv_No_init kd_No_init ⟨by decide, by decide, by decide⟩ rfl rfl d_N_let_23) (fun v1 M1 hv hle => ?_) (fun E1 M1 hv hle => ?_)
                  · rw [mbind_eq] at hF hS
                    obtain ⟨hx, hM1⟩ := hv
                    have hM2 := hM1.symm
                    subst hM2
                    generalize hq_w18 : F_No_init cs (gnw M (1, .inr (4, [.int 0, .int 0, .int 0, .int 0, .int 0, .int 0, .int 0, .int 0, .int 0, .int 0, .int 0])) 11) M.2.1 4 = w18 at hF hS hx hle ⊢
                    cases hx
                    refine GW.eqs (st' := [.ref M.2.1]) rfl ?_
                    refine g_astore (lv' := [(4, .ref M.2.1), (0, .ref a0), (1, .int x1), (2, .int x2), (3, .int x3)]) C d_N_let_26 (by decide) rfl ?_
                    refine g_aload C d_N_let_28 rfl ?_
                    refine g_iload_n C d_N_let_30 rfl ?_
                    obtain ⟨ho19, hS⟩ := hS
                    refine k_put (M0 := M) (M := w18) C hE.1 (ci := 4) i_No rfl 2 (by decide) (by decide) kf_N_131 t_No t_No_ok n_No rfl (nf_i _) d_N_let_31 ho19 ?_
                    replace hle := cLe.cP (ci := 4) (a := M.2.1) (k := 2) (v := .int x1) hle
                    refine g_aload C d_N_let_34 rfl ?_
                    refine g_iload_n C d_N_let_36 rfl ?_
                    obtain ⟨ho20, hS⟩ := hS
                    refine k_put (M0 := M) (M := cP 4 w18 M.2.1 2 (.int x1)) C hE.1 (ci := 4) i_No rfl 4 (by decide) (by decide) kf_N_134 t_No t_No_ok n_No rfl (nf_i _) d_N_let_37 ho20 ?_
                    replace hle := cLe.cP (ci := 4) (a := M.2.1) (k := 4) (v := .int x2) hle
                    refine g_aload C d_N_let_40 rfl ?_
                    refine g_iload_n C d_N_let_42 rfl ?_
                    obtain ⟨ho21, hS⟩ := hS
                    refine k_put (M0 := M) (M := cP 4 (cP 4 w18 M.2.1 2 (.int x1)) M.2.1 4 (.int x2)) C hE.1 (ci := 4) i_No rfl 5 (by decide) (by decide) kf_N_137 t_No t_No_ok n_No rfl (nf_i _) d_N_let_43 ho21 ?_
                    replace hle := cLe.cP (ci := 4) (a := M.2.1) (k := 5) (v := .int x3) hle
                    refine g_aload_n C d_N_let_46 rfl ?_
                    obtain ⟨ho22, hS⟩ := hS
                    refine c_getq C hE.1 (ci := 0) i_N rfl 1 (by decide) (by decide) (by decide) kf_N_19 d_N_let_47 ho22 ?_
                    refine g_aload C d_N_let_50 rfl ?_
                    obtain ⟨ho23, hS⟩ := hS
                    refine GW.known2 (a := (cQ (cP 4 (cP 4 (cP 4 w18 M.2.1 2 (.int x1)) M.2.1 4 (.int x2)) M.2.1 5 (.int x3)) a0 1).getD 0) (cOq.at ho23).1 ?_
                    obtain ⟨hs24, hS⟩ := hS
                    refine c_call (av := [.ref ((cQ (cP 4 (cP 4 (cP 4 w18 M.2.1 2 (.int x1)) M.2.1 4 (.int x2)) M.2.1 5 (.int x3)) a0 1).getD 0), .ref M.2.1]) (rest := []) C hE (fun _ h => h) ⟨rfl, rfl⟩ hle (cc_Ns_add l hf D cs B dE lim n _ ((cQ (cP 4 (cP 4 (cP 4 w18 M.2.1 2 (.int x1)) M.2.1 4 (.int x2)) M.2.1 5 (.int x3)) a0 1).getD 0) (some M.2.1) hs24) (fun _ h => h) kd_Ns_add ki_Ns (Nat.le_of_ble_eq_true rfl) (Nat.le_of_ble_eq_true rfl) d_N_let_52 (Nat.le_of_ble_eq_true rfl) (c_fV (n := 1) (ci := 3) C hE.1 rfl km_N_124 kv_Ns_add kl_Ns_add kd_Ns_add ⟨by decide, by decide, by decide⟩ rfl rfl d_N_let_52 (cOq.at ho23).2) (fun v1 M1 hv hle => ?_) (fun E1 M1 hv hle => ?_)
                    · rw [mbind_eq] at hF hS
                      obtain ⟨hx, hM1⟩ := hv
                      have hM2 := hM1.symm
                      subst hM2
                      generalize hq_w25 : F_Ns_add cs n (cP 4 (cP 4 (cP 4 w18 M.2.1 2 (.int x1)) M.2.1 4 (.int x2)) M.2.1 5 (.int x3)) ((cQ (cP 4 (cP 4 (cP 4 w18 M.2.1 2 (.int x1)) M.2.1 4 (.int x2)) M.2.1 5 (.int x3)) a0 1).getD 0) (some M.2.1) = w25 at hF hS hx hle ⊢
                      cases hx
                      refine GW.eqs (st' := [.int w25.1]) rfl ?_
                      exact c_iret (M := w25.2) C hr hlocks hle d_N_let_55 (by rw [← hF]; exact ⟨(if_pos rfl).symm, rfl⟩)
                    · cases hv.1
                  · cases hv.1
                · rw [if_neg h015] at hx
                  cases hx
              · rw [mbind_eq] at hF
                obtain ⟨hx, hM1⟩ := hv
                have hM2 := hM1.symm
                subst hM2
                generalize F_N_needRoom cs M a0  = w14 at hF hx hle ⊢
                by_cases h015 : w14 = 0
                · rw [if_pos h015] at hx
                  cases hx
                · rw [if_neg h015] at hF hx hle
                  rw [if_neg h015]
                  cases hx
                  exact c_tleave (fun _ h => h.elim) hex hlocks hle (by rw [← hF]; exact ⟨by rw [if_neg h015], rfl⟩)
            · rw [if_neg h011] at hx
              cases hx
          · rw [mbind_eq] at hF
            obtain ⟨hx, hM1⟩ := hv
            have hM2 := hM1.symm
            subst hM2
            generalize F_N_needNode cs M a0 x3 = w10 at hF hx hle ⊢
            by_cases h011 : w10 = 0
            · rw [if_pos h011] at hx
              cases hx
            · rw [if_neg h011] at hF hx hle
              rw [if_neg h011]
              cases hx
              exact c_tleave (fun _ h => h.elim) hex hlocks hle (by rw [← hF]; exact ⟨by rw [if_neg h011], rfl⟩)
        · rw [if_neg h07] at hx
          cases hx
      · rw [mbind_eq] at hF
        obtain ⟨hx, hM1⟩ := hv
        have hM2 := hM1.symm
        subst hM2
        generalize F_N_needNode cs M a0 x2 = w6 at hF hx hle ⊢
        by_cases h07 : w6 = 0
        · rw [if_pos h07] at hx
          cases hx
        · rw [if_neg h07] at hF hx hle
          rw [if_neg h07]
          cases hx
          exact c_tleave (fun _ h => h.elim) hex hlocks hle (by rw [← hF]; exact ⟨by rw [if_neg h07], rfl⟩)
    · rw [if_neg h03] at hx
      cases hx
  · rw [mbind_eq] at hF
    obtain ⟨hx, hM1⟩ := hv
    have hM2 := hM1.symm
    subst hM2
    generalize F_N_needName cs M x1 = w2 at hF hx hle ⊢
    by_cases h03 : w2 = 0
    · rw [if_pos h03] at hx
      cases hx
    · rw [if_neg h03] at hF hx hle
      rw [if_neg h03]
      cases hx
      exact c_tleave (fun _ h => h.elim) hex hlocks hle (by rw [← hF]; exact ⟨by rw [if_neg h03], rfl⟩)
def F_N_rec (cs : Nat → ClassId) (n : Nat) (M : gMem) (a0 : Nat) (x1 : Int32) (x2 : Int32) (x3 : Int32) (x4 : Int32) (x5 : Int32) : Nat × Int32 × gMem := mbind (F_N_needName cs M x1) (fun w2 => if w2 = 0 then (mbind (F_N_needName cs M x2) (fun w5 => if w5 = 0 then (mbind (F_Ty_isFunction cs M ((cQ M a0 0).getD 0) x3) (fun w10 => if w10 = 0 then ((1, 0, gsk M)) else (mbind (F_N_needNode cs M a0 x4) (fun w14 => if w14 = 0 then (mbind (F_N_needNode cs M a0 x5) (fun w18 => if w18 = 0 then (mbind (F_N_needRoom cs M a0 ) (fun w22 => if w22 = 0 then (mbind (F_No_init cs (gnw M (1, .inr (4, [.int 0, .int 0, .int 0, .int 0, .int 0, .int 0, .int 0, .int 0, .int 0, .int 0, .int 0])) 11) M.2.1 5) (fun w26 => mbind (F_Ns_add cs n (cP 4 (cP 4 (cP 4 (cP 4 (cP 4 w26 M.2.1 3 (.int x1)) M.2.1 2 (.int x2)) M.2.1 1 (.int x3)) M.2.1 4 (.int x4)) M.2.1 5 (.int x5)) ((cQ (cP 4 (cP 4 (cP 4 (cP 4 (cP 4 w26 M.2.1 3 (.int x1)) M.2.1 2 (.int x2)) M.2.1 1 (.int x3)) M.2.1 4 (.int x4)) M.2.1 5 (.int x5)) a0 1).getD 0) (some M.2.1)) (fun w35 => (0, w35.1, w35.2)))) else ((w22, 0, gsk M)))) else ((w18, 0, gsk M)))) else ((w14, 0, gsk M)))))) else ((w5, 0, gsk M)))) else ((w2, 0, gsk M)))
def S_N_rec (cs : Nat → ClassId) (lim : Nat × Nat) (n : Nat) (M : gMem) (a0 : Nat) (x1 : Int32) (x2 : Int32) (x3 : Int32) (x4 : Int32) (x5 : Int32) : Prop := (S_N_needName cs lim M x1) ∧ (mbind (F_N_needName cs M x1) (fun w2 => if w2 = 0 then ((S_N_needName cs lim M x2) ∧ (mbind (F_N_needName cs M x2) (fun w5 => if w5 = 0 then ((cOk 0 M a0) ∧ ((cOq 1 M (cQ M a0 0)) ∧ ((S_Ty_isFunction cs lim M ((cQ M a0 0).getD 0) x3) ∧ (mbind (F_Ty_isFunction cs M ((cQ M a0 0).getD 0) x3) (fun w10 => if w10 = 0 then ((M.2.1 + 1 ≤ lim.1 ∧ M.2.2 + 6 ≤ lim.2) ∧ (True)) else ((cOk 0 M a0) ∧ ((S_N_needNode cs lim M a0 x4) ∧ (mbind (F_N_needNode cs M a0 x4) (fun w14 => if w14 = 0 then ((cOk 0 M a0) ∧ ((S_N_needNode cs lim M a0 x5) ∧ (mbind (F_N_needNode cs M a0 x5) (fun w18 => if w18 = 0 then ((cOk 0 M a0) ∧ ((S_N_needRoom cs lim M a0 ) ∧ (mbind (F_N_needRoom cs M a0 ) (fun w22 => if w22 = 0 then ((M.2.1 + 1 ≤ lim.1 ∧ M.2.2 + 11 ≤ lim.2) ∧ ((S_No_init cs lim (gnw M (1, .inr (4, [.int 0, .int 0, .int 0, .int 0, .int 0, .int 0, .int 0, .int 0, .int 0, .int 0, .int 0])) 11) M.2.1 5) ∧ (mbind (F_No_init cs (gnw M (1, .inr (4, [.int 0, .int 0, .int 0, .int 0, .int 0, .int 0, .int 0, .int 0, .int 0, .int 0, .int 0])) 11) M.2.1 5) (fun w26 => (cOk 4 w26 M.2.1) ∧ ((cOk 4 (cP 4 w26 M.2.1 3 (.int x1)) M.2.1) ∧ ((cOk 4 (cP 4 (cP 4 w26 M.2.1 3 (.int x1)) M.2.1 2 (.int x2)) M.2.1) ∧ ((cOk 4 (cP 4 (cP 4 (cP 4 w26 M.2.1 3 (.int x1)) M.2.1 2 (.int x2)) M.2.1 1 (.int x3)) M.2.1) ∧ ((cOk 4 (cP 4 (cP 4 (cP 4 (cP 4 w26 M.2.1 3 (.int x1)) M.2.1 2 (.int x2)) M.2.1 1 (.int x3)) M.2.1 4 (.int x4)) M.2.1) ∧ ((cOk 0 (cP 4 (cP 4 (cP 4 (cP 4 (cP 4 w26 M.2.1 3 (.int x1)) M.2.1 2 (.int x2)) M.2.1 1 (.int x3)) M.2.1 4 (.int x4)) M.2.1 5 (.int x5)) a0) ∧ ((cOq 3 (cP 4 (cP 4 (cP 4 (cP 4 (cP 4 w26 M.2.1 3 (.int x1)) M.2.1 2 (.int x2)) M.2.1 1 (.int x3)) M.2.1 4 (.int x4)) M.2.1 5 (.int x5)) (cQ (cP 4 (cP 4 (cP 4 (cP 4 (cP 4 w26 M.2.1 3 (.int x1)) M.2.1 2 (.int x2)) M.2.1 1 (.int x3)) M.2.1 4 (.int x4)) M.2.1 5 (.int x5)) a0 1)) ∧ ((S_Ns_add cs lim n (cP 4 (cP 4 (cP 4 (cP 4 (cP 4 w26 M.2.1 3 (.int x1)) M.2.1 2 (.int x2)) M.2.1 1 (.int x3)) M.2.1 4 (.int x4)) M.2.1 5 (.int x5)) ((cQ (cP 4 (cP 4 (cP 4 (cP 4 (cP 4 w26 M.2.1 3 (.int x1)) M.2.1 2 (.int x2)) M.2.1 1 (.int x3)) M.2.1 4 (.int x4)) M.2.1 5 (.int x5)) a0 1).getD 0) (some M.2.1)) ∧ (mbind (F_Ns_add cs n (cP 4 (cP 4 (cP 4 (cP 4 (cP 4 w26 M.2.1 3 (.int x1)) M.2.1 2 (.int x2)) M.2.1 1 (.int x3)) M.2.1 4 (.int x4)) M.2.1 5 (.int x5)) ((cQ (cP 4 (cP 4 (cP 4 (cP 4 (cP 4 w26 M.2.1 3 (.int x1)) M.2.1 2 (.int x2)) M.2.1 1 (.int x3)) M.2.1 4 (.int x4)) M.2.1 5 (.int x5)) a0 1).getD 0) (some M.2.1)) (fun w35 => True))))))))))))) else (True))))) else (True))))) else (True)))))))))) else (True)))) else (True)))
set_option maxRecDepth 100000 in
set_option maxHeartbeats 4000000 in
theorem cc_N_rec (l : Launch) (hf : l.flags = pinnedFlags ++ [noTraceFlag]) (D : va_G) (cs : Nat → ClassId) (B : Nat) (dE : Nat × Nat) (lim : Nat × Nat) (n : Nat) (M : gMem) (a0 : Nat) (x1 : Int32) (x2 : Int32) (x3 : Int32) (x4 : Int32) (x5 : Int32) (hS : S_N_rec cs lim n M a0 x1 x2 x3 x4 x5) : cMet l y_N_rec (Cond.code y_N_rec c_N_rec 7 (some .int)) (7) (121) D cs B dE (gA B) lim [.ref a0, .int x1, .int x2, .int x3, .int x4, .int x5] M (fun x M' => x = (if (F_N_rec cs n M a0 x1 x2 x3 x4 x5).1 = 0 then .inl (some (.int ((F_N_rec cs n M a0 x1 x2 x3 x4 x5).2.1))) else .inr (exn (F_N_rec cs n M a0 x1 x2 x3 x4 x5).1)) ∧ M' = (F_N_rec cs n M a0 x1 x2 x3 x4 x5).2.2) := by
  refine cMet.ofW (by decide) (Nat.le_of_ble_eq_true rfl) (lv0 := [(0, .ref a0), (1, .int x1), (2, .int x2), (3, .int x3), (4, .int x4), (5, .int x5)]) rfl ?_
  intro p e s m args below meth c C hE hR0 hle hr hlocks hex hn
  generalize hF : F_N_rec cs n M a0 x1 x2 x3 x4 x5 = Fv
  unfold F_N_rec at hF
  unfold S_N_rec at hS
  refine g_iload_n C d_N_rec_0 rfl ?_
  obtain ⟨hs1, hS⟩ := hS
  refine c_call (av := [.int x1]) (rest := []) C hE (fun _ h => h.elim) ⟨rfl, rfl⟩ hle (cc_N_needName l hf D cs B dE lim _ x1 hs1) (fun _ h => h.elim) kd_N_needName ki_N (Nat.le_of_ble_eq_true rfl) (Nat.le_of_ble_eq_true rfl) d_N_rec_1 (Nat.le_of_ble_eq_true rfl) (c_fS (n := 1) C km_N_110 ks_N_needName ki_N kd_N_needName ⟨by decide, by decide, by decide⟩ rfl rfl d_N_rec_1) (fun v1 M1 hv hle => ?_) (fun E1 M1 hv hle => ?_)
  · rw [mbind_eq] at hF hS
    obtain ⟨hx, hM1⟩ := hv
    have hM2 := hM1.symm
    subst hM2
    generalize hq_w2 : F_N_needName cs M x1 = w2 at hF hS hx hle ⊢
    by_cases h03 : w2 = 0
    · rw [if_pos h03] at hF hS hx hle
      rw [if_pos h03]
      cases hx
      refine GW.eqs (st' := []) rfl ?_
      refine g_iload_n C d_N_rec_4 rfl ?_
      obtain ⟨hs4, hS⟩ := hS
      refine c_call (av := [.int x2]) (rest := []) C hE (fun _ h => h.elim) ⟨rfl, rfl⟩ hle (cc_N_needName l hf D cs B dE lim _ x2 hs4) (fun _ h => h.elim) kd_N_needName ki_N (Nat.le_of_ble_eq_true rfl) (Nat.le_of_ble_eq_true rfl) d_N_rec_5 (Nat.le_of_ble_eq_true rfl) (c_fS (n := 1) C km_N_110 ks_N_needName ki_N kd_N_needName ⟨by decide, by decide, by decide⟩ rfl rfl d_N_rec_5) (fun v1 M1 hv hle => ?_) (fun E1 M1 hv hle => ?_)
      · rw [mbind_eq] at hF hS
        obtain ⟨hx, hM1⟩ := hv
        have hM2 := hM1.symm
        subst hM2
        generalize hq_w5 : F_N_needName cs M x2 = w5 at hF hS hx hle ⊢
        by_cases h06 : w5 = 0
        · rw [if_pos h06] at hF hS hx hle
          rw [if_pos h06]
          cases hx
          refine GW.eqs (st' := []) rfl ?_
          refine g_aload_n C d_N_rec_8 rfl ?_
          obtain ⟨ho7, hS⟩ := hS
          refine c_getq C hE.1 (ci := 0) i_N rfl 0 (by decide) (by decide) (by decide) kf_N_10 d_N_rec_9 ho7 ?_
          refine g_iload_n C d_N_rec_12 rfl ?_
          obtain ⟨ho8, hS⟩ := hS
          refine GW.known2 (a := (cQ M a0 0).getD 0) (cOq.at ho8).1 ?_
          obtain ⟨hs9, hS⟩ := hS
          refine c_call (av := [.ref ((cQ M a0 0).getD 0), .int x3]) (rest := []) C hE (fun _ h => h.elim) ⟨rfl, rfl⟩ hle (cc_Ty_isFunction l hf D cs B dE lim _ ((cQ M a0 0).getD 0) x3 hs9) (fun _ h => h.elim) kd_Ty_isFunction ki_Ty (Nat.le_of_ble_eq_true rfl) (Nat.le_of_ble_eq_true rfl) d_N_rec_13 (Nat.le_of_ble_eq_true rfl) (c_fV (n := 1) (ci := 1) C hE.1 rfl km_N_140 kv_Ty_isFunction kl_Ty_isFunction kd_Ty_isFunction ⟨by decide, by decide, by decide⟩ rfl rfl d_N_rec_13 (cOq.at ho8).2) (fun v1 M1 hv hle => ?_) (fun E1 M1 hv hle => ?_)
          · rw [mbind_eq] at hF hS
            obtain ⟨hx, hM1⟩ := hv
            have hM2 := hM1.symm
            subst hM2
            generalize hq_w10 : F_Ty_isFunction cs M ((cQ M a0 0).getD 0) x3 = w10 at hF hS hx hle ⊢
            cases hx
            refine GW.eqs (st' := [.int w10]) rfl ?_
            refine g_if_ne C 29 d_N_rec_16 (by decide) (fun hc11 => ?_) (fun hc11 => ?_)
            · rw [if_neg hc11] at hF hS
              refine g_aload_n C d_N_rec_29 rfl ?_
              refine g_iload C d_N_rec_30 rfl ?_
              obtain ⟨ho12, hS⟩ := hS
              obtain ⟨hs13, hS⟩ := hS
              refine c_call (av := [.ref a0, .int x4]) (rest := []) C hE (fun _ h => h.elim) ⟨rfl, rfl⟩ hle (cc_N_needNode l hf D cs B dE lim _ a0 x4 hs13) (fun _ h => h.elim) kd_N_needNode ki_N (Nat.le_of_ble_eq_true rfl) (Nat.le_of_ble_eq_true rfl) d_N_rec_32 (Nat.le_of_ble_eq_true rfl) (c_fV (n := 1) (ci := 0) C hE.1 rfl km_N_128 kv_N_needNode kl_N_needNode kd_N_needNode ⟨by decide, by decide, by decide⟩ rfl rfl d_N_rec_32 ho12) (fun v1 M1 hv hle => ?_) (fun E1 M1 hv hle => ?_)
              · rw [mbind_eq] at hF hS
                obtain ⟨hx, hM1⟩ := hv
                have hM2 := hM1.symm
                subst hM2
                generalize hq_w14 : F_N_needNode cs M a0 x4 = w14 at hF hS hx hle ⊢
                by_cases h015 : w14 = 0
                · rw [if_pos h015] at hF hS hx hle
                  rw [if_pos h015]
                  cases hx
                  refine GW.eqs (st' := []) rfl ?_
                  refine g_aload_n C d_N_rec_35 rfl ?_
                  refine g_iload C d_N_rec_36 rfl ?_
                  obtain ⟨ho16, hS⟩ := hS
                  obtain ⟨hs17, hS⟩ := hS
                  refine c_call (av := [.ref a0, .int x5]) (rest := []) C hE (fun _ h => h.elim) ⟨rfl, rfl⟩ hle (cc_N_needNode l hf D cs B dE lim _ a0 x5 hs17) (fun _ h => h.elim) kd_N_needNode ki_N (Nat.le_of_ble_eq_true rfl) (Nat.le_of_ble_eq_true rfl) d_N_rec_38 (Nat.le_of_ble_eq_true rfl) (c_fV (n := 1) (ci := 0) C hE.1 rfl km_N_128 kv_N_needNode kl_N_needNode kd_N_needNode ⟨by decide, by decide, by decide⟩ rfl rfl d_N_rec_38 ho16) (fun v1 M1 hv hle => ?_) (fun E1 M1 hv hle => ?_)
                  · rw [mbind_eq] at hF hS
                    obtain ⟨hx, hM1⟩ := hv
                    have hM2 := hM1.symm
                    subst hM2
                    generalize hq_w18 : F_N_needNode cs M a0 x5 = w18 at hF hS hx hle ⊢
                    by_cases h019 : w18 = 0
                    · rw [if_pos h019] at hF hS hx hle
                      rw [if_pos h019]
                      cases hx
                      refine GW.eqs (st' := []) rfl ?_
                      refine g_aload_n C d_N_rec_41 rfl ?_
                      obtain ⟨ho20, hS⟩ := hS
                      obtain ⟨hs21, hS⟩ := hS
                      refine c_call (av := [.ref a0]) (rest := []) C hE (fun _ h => h.elim) ⟨rfl, rfl⟩ hle (cc_N_needRoom l hf D cs B dE lim _ a0  hs21) (fun _ h => h.elim) kd_N_needRoom ki_N (Nat.le_of_ble_eq_true rfl) (Nat.le_of_ble_eq_true rfl) d_N_rec_42 (Nat.le_of_ble_eq_true rfl) (c_fV (n := 0) (ci := 0) C hE.1 rfl km_N_113 kv_N_needRoom kl_N_needRoom kd_N_needRoom ⟨by decide, by decide, by decide⟩ rfl rfl d_N_rec_42 ho20) (fun v1 M1 hv hle => ?_) (fun E1 M1 hv hle => ?_)
                      · rw [mbind_eq] at hF hS
                        obtain ⟨hx, hM1⟩ := hv
                        have hM2 := hM1.symm
                        subst hM2
                        generalize hq_w22 : F_N_needRoom cs M a0  = w22 at hF hS hx hle ⊢
                        by_cases h023 : w22 = 0
                        · rw [if_pos h023] at hF hS hx hle
                          rw [if_pos h023]
                          cases hx
                          refine GW.eqs (st' := []) rfl ?_
                          refine GW.more (A' := gA B) (fun _ h => h.elim) ?_
                          obtain ⟨hl24, hS⟩ := hS
                          refine c_new (M0 := M) (M := M) (ci := 4) (N := 11) (fs := [.int 0, .int 0, .int 0, .int 0, .int 0, .int 0, .int 0, .int 0, .int 0, .int 0, .int 0]) C hE.1 ⟨rfl, rfl⟩ hle i_No rfl t_No t_No_ok kc_N_116 kn_No ki_No (by decide) d_N_rec_45 hl24 (fun hle => ?_)
                          refine g_dup C d_N_rec_48 rfl ?_
                          refine g_iconst (v := 5) C d_N_rec_49 (by decide) ?_
                          obtain ⟨hs25, hS⟩ := hS
                          refine c_call (av := [.ref M.2.1, .int 5]) (rest := [.ref M.2.1]) C hE (fun _ h => h) ⟨rfl, rfl⟩ hle (cc_No_init l hf D cs B dE lim _ M.2.1 5 hs25) (fun _ h => h) kd_No_init ki_No (Nat.le_of_ble_eq_true rfl) (Nat.le_of_ble_eq_true rfl) d_N_rec_50 (Nat.le_of_ble_eq_true rfl) (c_fI (n := 1) C rfl km_N_118 kv_No_init kd_No_init ⟨by decide, by decide, by decide⟩ rfl rfl d_N_rec_50) (fun v1 M1 hv hle => ?_) (fun E1 M1 hv hle => ?_)
                          · rw [mbind_eq] at hF hS
                            obtain ⟨hx, hM1⟩ := hv
                            have hM2 := hM1.symm
                            subst hM2
                            generalize hq_w26 : F_No_init cs (gnw M (1, .inr (4, [.int 0, .int 0, .int 0, .int 0, .int 0, .int 0, .int 0, .int 0, .int 0, .int 0, .int 0])) 11) M.2.1 5 = w26 at hF hS hx hle ⊢
                            cases hx
                            refine GW.eqs (st' := [.ref M.2.1]) rfl ?_
                            refine g_astore (lv' := [(6, .ref M.2.1), (0, .ref a0), (1, .int x1), (2, .int x2), (3, .int x3), (4, .int x4), (5, .int x5)]) C d_N_rec_53 (by decide) rfl ?_
                            refine g_aload C d_N_rec_55 rfl ?_
                            refine g_iload_n C d_N_rec_57 rfl ?_
                            obtain ⟨ho27, hS⟩ := hS
                            refine k_put (M0 := M) (M := w26) C hE.1 (ci := 4) i_No rfl 3 (by decide) (by decide) kf_N_146 t_No t_No_ok n_No rfl (nf_i _) d_N_rec_58 ho27 ?_
                            replace hle := cLe.cP (ci := 4) (a := M.2.1) (k := 3) (v := .int x1) hle
                            refine g_aload C d_N_rec_61 rfl ?_
                            refine g_iload_n C d_N_rec_63 rfl ?_
                            obtain ⟨ho28, hS⟩ := hS
                            refine k_put (M0 := M) (M := cP 4 w26 M.2.1 3 (.int x1)) C hE.1 (ci := 4) i_No rfl 2 (by decide) (by decide) kf_N_131 t_No t_No_ok n_No rfl (nf_i _) d_N_rec_64 ho28 ?_
                            replace hle := cLe.cP (ci := 4) (a := M.2.1) (k := 2) (v := .int x2) hle
                            refine g_aload C d_N_rec_67 rfl ?_
                            refine g_iload_n C d_N_rec_69 rfl ?_
                            obtain ⟨ho29, hS⟩ := hS
                            refine k_put (M0 := M) (M := cP 4 (cP 4 w26 M.2.1 3 (.int x1)) M.2.1 2 (.int x2)) C hE.1 (ci := 4) i_No rfl 1 (by decide) (by decide) kf_N_120 t_No t_No_ok n_No rfl (nf_i _) d_N_rec_70 ho29 ?_
                            replace hle := cLe.cP (ci := 4) (a := M.2.1) (k := 1) (v := .int x3) hle
                            refine g_aload C d_N_rec_73 rfl ?_
                            refine g_iload C d_N_rec_75 rfl ?_
                            obtain ⟨ho30, hS⟩ := hS
                            refine k_put (M0 := M) (M := cP 4 (cP 4 (cP 4 w26 M.2.1 3 (.int x1)) M.2.1 2 (.int x2)) M.2.1 1 (.int x3)) C hE.1 (ci := 4) i_No rfl 4 (by decide) (by decide) kf_N_134 t_No t_No_ok n_No rfl (nf_i _) d_N_rec_77 ho30 ?_
                            replace hle := cLe.cP (ci := 4) (a := M.2.1) (k := 4) (v := .int x4) hle
                            refine g_aload C d_N_rec_80 rfl ?_
                            refine g_iload C d_N_rec_82 rfl ?_
                            obtain ⟨ho31, hS⟩ := hS
                            refine k_put (M0 := M) (M := cP 4 (cP 4 (cP 4 (cP 4 w26 M.2.1 3 (.int x1)) M.2.1 2 (.int x2)) M.2.1 1 (.int x3)) M.2.1 4 (.int x4)) C hE.1 (ci := 4) i_No rfl 5 (by decide) (by decide) kf_N_137 t_No t_No_ok n_No rfl (nf_i _) d_N_rec_84 ho31 ?_
                            replace hle := cLe.cP (ci := 4) (a := M.2.1) (k := 5) (v := .int x5) hle
                            refine g_aload_n C d_N_rec_87 rfl ?_
                            obtain ⟨ho32, hS⟩ := hS
                            refine c_getq C hE.1 (ci := 0) i_N rfl 1 (by decide) (by decide) (by decide) kf_N_19 d_N_rec_88 ho32 ?_
                            refine g_aload C d_N_rec_91 rfl ?_
                            obtain ⟨ho33, hS⟩ := hS
                            refine GW.known2 (a := (cQ (cP 4 (cP 4 (cP 4 (cP 4 (cP 4 w26 M.2.1 3 (.int x1)) M.2.1 2 (.int x2)) M.2.1 1 (.int x3)) M.2.1 4 (.int x4)) M.2.1 5 (.int x5)) a0 1).getD 0) (cOq.at ho33).1 ?_
                            obtain ⟨hs34, hS⟩ := hS
                            refine c_call (av := [.ref ((cQ (cP 4 (cP 4 (cP 4 (cP 4 (cP 4 w26 M.2.1 3 (.int x1)) M.2.1 2 (.int x2)) M.2.1 1 (.int x3)) M.2.1 4 (.int x4)) M.2.1 5 (.int x5)) a0 1).getD 0), .ref M.2.1]) (rest := []) C hE (fun _ h => h) ⟨rfl, rfl⟩ hle (cc_Ns_add l hf D cs B dE lim n _ ((cQ (cP 4 (cP 4 (cP 4 (cP 4 (cP 4 w26 M.2.1 3 (.int x1)) M.2.1 2 (.int x2)) M.2.1 1 (.int x3)) M.2.1 4 (.int x4)) M.2.1 5 (.int x5)) a0 1).getD 0) (some M.2.1) hs34) (fun _ h => h) kd_Ns_add ki_Ns (Nat.le_of_ble_eq_true rfl) (Nat.le_of_ble_eq_true rfl) d_N_rec_93 (Nat.le_of_ble_eq_true rfl) (c_fV (n := 1) (ci := 3) C hE.1 rfl km_N_124 kv_Ns_add kl_Ns_add kd_Ns_add ⟨by decide, by decide, by decide⟩ rfl rfl d_N_rec_93 (cOq.at ho33).2) (fun v1 M1 hv hle => ?_) (fun E1 M1 hv hle => ?_)
                            · rw [mbind_eq] at hF hS
                              obtain ⟨hx, hM1⟩ := hv
                              have hM2 := hM1.symm
                              subst hM2
                              generalize hq_w35 : F_Ns_add cs n (cP 4 (cP 4 (cP 4 (cP 4 (cP 4 w26 M.2.1 3 (.int x1)) M.2.1 2 (.int x2)) M.2.1 1 (.int x3)) M.2.1 4 (.int x4)) M.2.1 5 (.int x5)) ((cQ (cP 4 (cP 4 (cP 4 (cP 4 (cP 4 w26 M.2.1 3 (.int x1)) M.2.1 2 (.int x2)) M.2.1 1 (.int x3)) M.2.1 4 (.int x4)) M.2.1 5 (.int x5)) a0 1).getD 0) (some M.2.1) = w35 at hF hS hx hle ⊢
                              cases hx
                              refine GW.eqs (st' := [.int w35.1]) rfl ?_
                              exact c_iret (M := w35.2) C hr hlocks hle d_N_rec_96 (by rw [← hF]; exact ⟨(if_pos rfl).symm, rfl⟩)
                            · cases hv.1
                          · cases hv.1
                        · rw [if_neg h023] at hx
                          cases hx
                      · rw [mbind_eq] at hF
                        obtain ⟨hx, hM1⟩ := hv
                        have hM2 := hM1.symm
                        subst hM2
                        generalize F_N_needRoom cs M a0  = w22 at hF hx hle ⊢
                        by_cases h023 : w22 = 0
                        · rw [if_pos h023] at hx
                          cases hx
                        · rw [if_neg h023] at hF hx hle
                          rw [if_neg h023]
                          cases hx
                          exact c_tleave (fun _ h => h.elim) hex hlocks hle (by rw [← hF]; exact ⟨by rw [if_neg h023], rfl⟩)
                    · rw [if_neg h019] at hx
                      cases hx
                  · rw [mbind_eq] at hF
                    obtain ⟨hx, hM1⟩ := hv
                    have hM2 := hM1.symm
                    subst hM2
                    generalize F_N_needNode cs M a0 x5 = w18 at hF hx hle ⊢
                    by_cases h019 : w18 = 0
                    · rw [if_pos h019] at hx
                      cases hx
                    · rw [if_neg h019] at hF hx hle
                      rw [if_neg h019]
                      cases hx
                      exact c_tleave (fun _ h => h.elim) hex hlocks hle (by rw [← hF]; exact ⟨by rw [if_neg h019], rfl⟩)
                · rw [if_neg h015] at hx
                  cases hx
              · rw [mbind_eq] at hF
                obtain ⟨hx, hM1⟩ := hv
                have hM2 := hM1.symm
                subst hM2
                generalize F_N_needNode cs M a0 x4 = w14 at hF hx hle ⊢
                by_cases h015 : w14 = 0
                · rw [if_pos h015] at hx
                  cases hx
                · rw [if_neg h015] at hF hx hle
                  rw [if_neg h015]
                  cases hx
                  exact c_tleave (fun _ h => h.elim) hex hlocks hle (by rw [← hF]; exact ⟨by rw [if_neg h015], rfl⟩)
            · rw [if_pos hc11] at hF hS
              obtain ⟨hl36, hS⟩ := hS
              exact c_throw C hf hex hlocks hR0 hl36 (gAts_of C hE (by decide +kernel) (by decide +kernel) ats_Ix) (gE_st hE kq_N_144) kc_N_103 kn_Ix ki_Ix ⟨rfl, rfl⟩ d_N_rec_19 d_N_rec_22 d_N_rec_23 d_N_rec_25 d_N_rec_28 (Nat.le_of_ble_eq_true rfl) (Nat.le_of_ble_eq_true rfl) (by rw [← hF]; exact ⟨rfl, rfl⟩)
          · cases hv.1
        · rw [if_neg h06] at hx
          cases hx
      · rw [mbind_eq] at hF
        obtain ⟨hx, hM1⟩ := hv
        have hM2 := hM1.symm
        subst hM2
        generalize F_N_needName cs M x2 = w5 at hF hx hle ⊢
        by_cases h06 : w5 = 0
        · rw [if_pos h06] at hx
          cases hx
        · rw [if_neg h06] at hF hx hle
          rw [if_neg h06]
          cases hx
          exact c_tleave (fun _ h => h.elim) hex hlocks hle (by rw [← hF]; exact ⟨by rw [if_neg h06], rfl⟩)
    · rw [if_neg h03] at hx
      cases hx
  · rw [mbind_eq] at hF
    obtain ⟨hx, hM1⟩ := hv
    have hM2 := hM1.symm
    subst hM2
    generalize F_N_needName cs M x1 = w2 at hF hx hle ⊢
    by_cases h03 : w2 = 0
    · rw [if_pos h03] at hx
      cases hx
    · rw [if_neg h03] at hF hx hle
      rw [if_neg h03]
      cases hx
      exact c_tleave (fun _ h => h.elim) hex hlocks hle (by rw [← hF]; exact ⟨by rw [if_neg h03], rfl⟩)
def F_N_choice (cs : Nat → ClassId) (n : Nat) (M : gMem) (a0 : Nat) (x1 : Int32) (x2 : Int32) (x3 : Int32) : Nat × Int32 × gMem := mbind (F_N_needNode cs M a0 x1) (fun w3 => if w3 = 0 then (mbind (F_N_needNode cs M a0 x2) (fun w7 => if w7 = 0 then (mbind (F_N_needNode cs M a0 x3) (fun w11 => if w11 = 0 then (mbind (F_N_needRoom cs M a0 ) (fun w15 => if w15 = 0 then (mbind (F_No_init cs (gnw M (1, .inr (4, [.int 0, .int 0, .int 0, .int 0, .int 0, .int 0, .int 0, .int 0, .int 0, .int 0, .int 0])) 11) M.2.1 6) (fun w19 => mbind (F_Ns_add cs n (cP 4 (cP 4 (cP 4 w19 M.2.1 4 (.int x1)) M.2.1 5 (.int x2)) M.2.1 6 (.int x3)) ((cQ (cP 4 (cP 4 (cP 4 w19 M.2.1 4 (.int x1)) M.2.1 5 (.int x2)) M.2.1 6 (.int x3)) a0 1).getD 0) (some M.2.1)) (fun w26 => (0, w26.1, w26.2)))) else ((w15, 0, gsk M)))) else ((w11, 0, gsk M)))) else ((w7, 0, gsk M)))) else ((w3, 0, gsk M)))
def S_N_choice (cs : Nat → ClassId) (lim : Nat × Nat) (n : Nat) (M : gMem) (a0 : Nat) (x1 : Int32) (x2 : Int32) (x3 : Int32) : Prop := (cOk 0 M a0) ∧ ((S_N_needNode cs lim M a0 x1) ∧ (mbind (F_N_needNode cs M a0 x1) (fun w3 => if w3 = 0 then ((cOk 0 M a0) ∧ ((S_N_needNode cs lim M a0 x2) ∧ (mbind (F_N_needNode cs M a0 x2) (fun w7 => if w7 = 0 then ((cOk 0 M a0) ∧ ((S_N_needNode cs lim M a0 x3) ∧ (mbind (F_N_needNode cs M a0 x3) (fun w11 => if w11 = 0 then ((cOk 0 M a0) ∧ ((S_N_needRoom cs lim M a0 ) ∧ (mbind (F_N_needRoom cs M a0 ) (fun w15 => if w15 = 0 then ((M.2.1 + 1 ≤ lim.1 ∧ M.2.2 + 11 ≤ lim.2) ∧ ((S_No_init cs lim (gnw M (1, .inr (4, [.int 0, .int 0, .int 0, .int 0, .int 0, .int 0, .int 0, .int 0, .int 0, .int 0, .int 0])) 11) M.2.1 6) ∧ (mbind (F_No_init cs (gnw M (1, .inr (4, [.int 0, .int 0, .int 0, .int 0, .int 0, .int 0, .int 0, .int 0, .int 0, .int 0, .int 0])) 11) M.2.1 6) (fun w19 => (cOk 4 w19 M.2.1) ∧ ((cOk 4 (cP 4 w19 M.2.1 4 (.int x1)) M.2.1) ∧ ((cOk 4 (cP 4 (cP 4 w19 M.2.1 4 (.int x1)) M.2.1 5 (.int x2)) M.2.1) ∧ ((cOk 0 (cP 4 (cP 4 (cP 4 w19 M.2.1 4 (.int x1)) M.2.1 5 (.int x2)) M.2.1 6 (.int x3)) a0) ∧ ((cOq 3 (cP 4 (cP 4 (cP 4 w19 M.2.1 4 (.int x1)) M.2.1 5 (.int x2)) M.2.1 6 (.int x3)) (cQ (cP 4 (cP 4 (cP 4 w19 M.2.1 4 (.int x1)) M.2.1 5 (.int x2)) M.2.1 6 (.int x3)) a0 1)) ∧ ((S_Ns_add cs lim n (cP 4 (cP 4 (cP 4 w19 M.2.1 4 (.int x1)) M.2.1 5 (.int x2)) M.2.1 6 (.int x3)) ((cQ (cP 4 (cP 4 (cP 4 w19 M.2.1 4 (.int x1)) M.2.1 5 (.int x2)) M.2.1 6 (.int x3)) a0 1).getD 0) (some M.2.1)) ∧ (mbind (F_Ns_add cs n (cP 4 (cP 4 (cP 4 w19 M.2.1 4 (.int x1)) M.2.1 5 (.int x2)) M.2.1 6 (.int x3)) ((cQ (cP 4 (cP 4 (cP 4 w19 M.2.1 4 (.int x1)) M.2.1 5 (.int x2)) M.2.1 6 (.int x3)) a0 1).getD 0) (some M.2.1)) (fun w26 => True))))))))))) else (True))))) else (True))))) else (True))))) else (True))))
set_option maxRecDepth 100000 in
set_option maxHeartbeats 4000000 in
theorem cc_N_choice (l : Launch) (hf : l.flags = pinnedFlags ++ [noTraceFlag]) (D : va_G) (cs : Nat → ClassId) (B : Nat) (dE : Nat × Nat) (lim : Nat × Nat) (n : Nat) (M : gMem) (a0 : Nat) (x1 : Int32) (x2 : Int32) (x3 : Int32) (hS : S_N_choice cs lim n M a0 x1 x2 x3) : cMet l y_N_choice (Cond.code y_N_choice c_N_choice 5 (some .int)) (7) (121) D cs B dE (gA B) lim [.ref a0, .int x1, .int x2, .int x3] M (fun x M' => x = (if (F_N_choice cs n M a0 x1 x2 x3).1 = 0 then .inl (some (.int ((F_N_choice cs n M a0 x1 x2 x3).2.1))) else .inr (exn (F_N_choice cs n M a0 x1 x2 x3).1)) ∧ M' = (F_N_choice cs n M a0 x1 x2 x3).2.2) := by
  refine cMet.ofW (by decide) (Nat.le_of_ble_eq_true rfl) (lv0 := [(0, .ref a0), (1, .int x1), (2, .int x2), (3, .int x3)]) rfl ?_
  intro p e s m args below meth c C hE hR0 hle hr hlocks hex hn
  generalize hF : F_N_choice cs n M a0 x1 x2 x3 = Fv
  unfold F_N_choice at hF
  unfold S_N_choice at hS
  refine g_aload_n C d_N_choice_0 rfl ?_
  refine g_iload_n C d_N_choice_1 rfl ?_
  obtain ⟨ho1, hS⟩ := hS
  obtain ⟨hs2, hS⟩ := hS
  refine c_call (av := [.ref a0, .int x1]) (rest := []) C hE (fun _ h => h.elim) ⟨rfl, rfl⟩ hle (cc_N_needNode l hf D cs B dE lim _ a0 x1 hs2) (fun _ h => h.elim) kd_N_needNode ki_N (Nat.le_of_ble_eq_true rfl) (Nat.le_of_ble_eq_true rfl) d_N_choice_2 (Nat.le_of_ble_eq_true rfl) (c_fV (n := 1) (ci := 0) C hE.1 rfl km_N_128 kv_N_needNode kl_N_needNode kd_N_needNode ⟨by decide, by decide, by decide⟩ rfl rfl d_N_choice_2 ho1) (fun v1 M1 hv hle => ?_) (fun E1 M1 hv hle => ?_)
  · rw [mbind_eq] at hF hS
    obtain ⟨hx, hM1⟩ := hv
    have hM2 := hM1.symm
    subst hM2
    generalize hq_w3 : F_N_needNode cs M a0 x1 = w3 at hF hS hx hle ⊢
    by_cases h04 : w3 = 0
    · rw [if_pos h04] at hF hS hx hle
      rw [if_pos h04]
      cases hx
      refine GW.eqs (st' := []) rfl ?_
      refine g_aload_n C d_N_choice_5 rfl ?_
      refine g_iload_n C d_N_choice_6 rfl ?_
      obtain ⟨ho5, hS⟩ := hS
      obtain ⟨hs6, hS⟩ := hS
      refine c_call (av := [.ref a0, .int x2]) (rest := []) C hE (fun _ h => h.elim) ⟨rfl, rfl⟩ hle (cc_N_needNode l hf D cs B dE lim _ a0 x2 hs6) (fun _ h => h.elim) kd_N_needNode ki_N (Nat.le_of_ble_eq_true rfl) (Nat.le_of_ble_eq_true rfl) d_N_choice_7 (Nat.le_of_ble_eq_true rfl) (c_fV (n := 1) (ci := 0) C hE.1 rfl km_N_128 kv_N_needNode kl_N_needNode kd_N_needNode ⟨by decide, by decide, by decide⟩ rfl rfl d_N_choice_7 ho5) (fun v1 M1 hv hle => ?_) (fun E1 M1 hv hle => ?_)
      · rw [mbind_eq] at hF hS
        obtain ⟨hx, hM1⟩ := hv
        have hM2 := hM1.symm
        subst hM2
        generalize hq_w7 : F_N_needNode cs M a0 x2 = w7 at hF hS hx hle ⊢
        by_cases h08 : w7 = 0
        · rw [if_pos h08] at hF hS hx hle
          rw [if_pos h08]
          cases hx
          refine GW.eqs (st' := []) rfl ?_
          refine g_aload_n C d_N_choice_10 rfl ?_
          refine g_iload_n C d_N_choice_11 rfl ?_
          obtain ⟨ho9, hS⟩ := hS
          obtain ⟨hs10, hS⟩ := hS
          refine c_call (av := [.ref a0, .int x3]) (rest := []) C hE (fun _ h => h.elim) ⟨rfl, rfl⟩ hle (cc_N_needNode l hf D cs B dE lim _ a0 x3 hs10) (fun _ h => h.elim) kd_N_needNode ki_N (Nat.le_of_ble_eq_true rfl) (Nat.le_of_ble_eq_true rfl) d_N_choice_12 (Nat.le_of_ble_eq_true rfl) (c_fV (n := 1) (ci := 0) C hE.1 rfl km_N_128 kv_N_needNode kl_N_needNode kd_N_needNode ⟨by decide, by decide, by decide⟩ rfl rfl d_N_choice_12 ho9) (fun v1 M1 hv hle => ?_) (fun E1 M1 hv hle => ?_)
          · rw [mbind_eq] at hF hS
            obtain ⟨hx, hM1⟩ := hv
            have hM2 := hM1.symm
            subst hM2
            generalize hq_w11 : F_N_needNode cs M a0 x3 = w11 at hF hS hx hle ⊢
            by_cases h012 : w11 = 0
            · rw [if_pos h012] at hF hS hx hle
              rw [if_pos h012]
              cases hx
              refine GW.eqs (st' := []) rfl ?_
              refine g_aload_n C d_N_choice_15 rfl ?_
              obtain ⟨ho13, hS⟩ := hS
              obtain ⟨hs14, hS⟩ := hS
              refine c_call (av := [.ref a0]) (rest := []) C hE (fun _ h => h.elim) ⟨rfl, rfl⟩ hle (cc_N_needRoom l hf D cs B dE lim _ a0  hs14) (fun _ h => h.elim) kd_N_needRoom ki_N (Nat.le_of_ble_eq_true rfl) (Nat.le_of_ble_eq_true rfl) d_N_choice_16 (Nat.le_of_ble_eq_true rfl) (c_fV (n := 0) (ci := 0) C hE.1 rfl km_N_113 kv_N_needRoom kl_N_needRoom kd_N_needRoom ⟨by decide, by decide, by decide⟩ rfl rfl d_N_choice_16 ho13) (fun v1 M1 hv hle => ?_) (fun E1 M1 hv hle => ?_)
              · rw [mbind_eq] at hF hS
                obtain ⟨hx, hM1⟩ := hv
                have hM2 := hM1.symm
                subst hM2
                generalize hq_w15 : F_N_needRoom cs M a0  = w15 at hF hS hx hle ⊢
                by_cases h016 : w15 = 0
                · rw [if_pos h016] at hF hS hx hle
                  rw [if_pos h016]
                  cases hx
                  refine GW.eqs (st' := []) rfl ?_
                  refine GW.more (A' := gA B) (fun _ h => h.elim) ?_
                  obtain ⟨hl17, hS⟩ := hS
                  refine c_new (M0 := M) (M := M) (ci := 4) (N := 11) (fs := [.int 0, .int 0, .int 0, .int 0, .int 0, .int 0, .int 0, .int 0, .int 0, .int 0, .int 0]) C hE.1 ⟨rfl, rfl⟩ hle i_No rfl t_No t_No_ok kc_N_116 kn_No ki_No (by decide) d_N_choice_19 hl17 (fun hle => ?_)
                  refine g_dup C d_N_choice_22 rfl ?_
                  refine g_bipush (v := 6) C d_N_choice_23 (by decide) ?_
                  obtain ⟨hs18, hS⟩ := hS
                  refine c_call (av := [.ref M.2.1, .int 6]) (rest := [.ref M.2.1]) C hE (fun _ h => h) ⟨rfl, rfl⟩ hle (cc_No_init l hf D cs B dE lim _ M.2.1 6 hs18) (fun _ h => h) kd_No_init ki_No (Nat.le_of_ble_eq_true rfl) (Nat.le_of_ble_eq_true rfl) d_N_choice_25 (Nat.le_of_ble_eq_true rfl) (c_fI (n := 1) C rfl km_N_118 kv_No_init kd_No_init ⟨by decide, by decide, by decide⟩ rfl rfl d_N_choice_25) (fun v1 M1 hv hle => ?_) (fun E1 M1 hv hle => ?_)
                  · rw [mbind_eq] at hF hS
                    obtain ⟨hx, hM1⟩ := hv
                    have hM2 := hM1.symm
                    subst hM2
                    generalize hq_w19 : F_No_init cs (gnw M (1, .inr (4, [.int 0, .int 0, .int 0, .int 0, .int 0, .int 0, .int 0, .int 0, .int 0, .int 0, .int 0])) 11) M.2.1 6 = w19 at hF hS hx hle ⊢
                    cases hx
                    refine GW.eqs (st' := [.ref M.2.1]) rfl ?_
                    refine g_astore (lv' := [(4, .ref M.2.1), (0, .ref a0), (1, .int x1), (2, .int x2), (3, .int x3)]) C d_N_choice_28 (by decide) rfl ?_
                    refine g_aload C d_N_choice_30 rfl ?_
                    refine g_iload_n C d_N_choice_32 rfl ?_
                    obtain ⟨ho20, hS⟩ := hS
                    refine k_put (M0 := M) (M := w19) C hE.1 (ci := 4) i_No rfl 4 (by decide) (by decide) kf_N_134 t_No t_No_ok n_No rfl (nf_i _) d_N_choice_33 ho20 ?_
                    replace hle := cLe.cP (ci := 4) (a := M.2.1) (k := 4) (v := .int x1) hle
                    refine g_aload C d_N_choice_36 rfl ?_
                    refine g_iload_n C d_N_choice_38 rfl ?_
                    obtain ⟨ho21, hS⟩ := hS
                    refine k_put (M0 := M) (M := cP 4 w19 M.2.1 4 (.int x1)) C hE.1 (ci := 4) i_No rfl 5 (by decide) (by decide) kf_N_137 t_No t_No_ok n_No rfl (nf_i _) d_N_choice_39 ho21 ?_
                    replace hle := cLe.cP (ci := 4) (a := M.2.1) (k := 5) (v := .int x2) hle
                    refine g_aload C d_N_choice_42 rfl ?_
                    refine g_iload_n C d_N_choice_44 rfl ?_
                    obtain ⟨ho22, hS⟩ := hS
                    refine k_put (M0 := M) (M := cP 4 (cP 4 w19 M.2.1 4 (.int x1)) M.2.1 5 (.int x2)) C hE.1 (ci := 4) i_No rfl 6 (by decide) (by decide) kf_N_149 t_No t_No_ok n_No rfl (nf_i _) d_N_choice_45 ho22 ?_
                    replace hle := cLe.cP (ci := 4) (a := M.2.1) (k := 6) (v := .int x3) hle
                    refine g_aload_n C d_N_choice_48 rfl ?_
                    obtain ⟨ho23, hS⟩ := hS
                    refine c_getq C hE.1 (ci := 0) i_N rfl 1 (by decide) (by decide) (by decide) kf_N_19 d_N_choice_49 ho23 ?_
                    refine g_aload C d_N_choice_52 rfl ?_
                    obtain ⟨ho24, hS⟩ := hS
                    refine GW.known2 (a := (cQ (cP 4 (cP 4 (cP 4 w19 M.2.1 4 (.int x1)) M.2.1 5 (.int x2)) M.2.1 6 (.int x3)) a0 1).getD 0) (cOq.at ho24).1 ?_
                    obtain ⟨hs25, hS⟩ := hS
                    refine c_call (av := [.ref ((cQ (cP 4 (cP 4 (cP 4 w19 M.2.1 4 (.int x1)) M.2.1 5 (.int x2)) M.2.1 6 (.int x3)) a0 1).getD 0), .ref M.2.1]) (rest := []) C hE (fun _ h => h) ⟨rfl, rfl⟩ hle (cc_Ns_add l hf D cs B dE lim n _ ((cQ (cP 4 (cP 4 (cP 4 w19 M.2.1 4 (.int x1)) M.2.1 5 (.int x2)) M.2.1 6 (.int x3)) a0 1).getD 0) (some M.2.1) hs25) (fun _ h => h) kd_Ns_add ki_Ns (Nat.le_of_ble_eq_true rfl) (Nat.le_of_ble_eq_true rfl) d_N_choice_54 (Nat.le_of_ble_eq_true rfl) (c_fV (n := 1) (ci := 3) C hE.1 rfl km_N_124 kv_Ns_add kl_Ns_add kd_Ns_add ⟨by decide, by decide, by decide⟩ rfl rfl d_N_choice_54 (cOq.at ho24).2) (fun v1 M1 hv hle => ?_) (fun E1 M1 hv hle => ?_)
                    · rw [mbind_eq] at hF hS
                      obtain ⟨hx, hM1⟩ := hv
                      have hM2 := hM1.symm
                      subst hM2
                      generalize hq_w26 : F_Ns_add cs n (cP 4 (cP 4 (cP 4 w19 M.2.1 4 (.int x1)) M.2.1 5 (.int x2)) M.2.1 6 (.int x3)) ((cQ (cP 4 (cP 4 (cP 4 w19 M.2.1 4 (.int x1)) M.2.1 5 (.int x2)) M.2.1 6 (.int x3)) a0 1).getD 0) (some M.2.1) = w26 at hF hS hx hle ⊢
                      cases hx
                      refine GW.eqs (st' := [.int w26.1]) rfl ?_
                      exact c_iret (M := w26.2) C hr hlocks hle d_N_choice_57 (by rw [← hF]; exact ⟨(if_pos rfl).symm, rfl⟩)
                    · cases hv.1
                  · cases hv.1
                · rw [if_neg h016] at hx
                  cases hx
              · rw [mbind_eq] at hF
                obtain ⟨hx, hM1⟩ := hv
                have hM2 := hM1.symm
                subst hM2
                generalize F_N_needRoom cs M a0  = w15 at hF hx hle ⊢
                by_cases h016 : w15 = 0
                · rw [if_pos h016] at hx
                  cases hx
                · rw [if_neg h016] at hF hx hle
                  rw [if_neg h016]
                  cases hx
                  exact c_tleave (fun _ h => h.elim) hex hlocks hle (by rw [← hF]; exact ⟨by rw [if_neg h016], rfl⟩)
            · rw [if_neg h012] at hx
              cases hx
          · rw [mbind_eq] at hF
            obtain ⟨hx, hM1⟩ := hv
            have hM2 := hM1.symm
            subst hM2
            generalize F_N_needNode cs M a0 x3 = w11 at hF hx hle ⊢
            by_cases h012 : w11 = 0
            · rw [if_pos h012] at hx
              cases hx
            · rw [if_neg h012] at hF hx hle
              rw [if_neg h012]
              cases hx
              exact c_tleave (fun _ h => h.elim) hex hlocks hle (by rw [← hF]; exact ⟨by rw [if_neg h012], rfl⟩)
        · rw [if_neg h08] at hx
          cases hx
      · rw [mbind_eq] at hF
        obtain ⟨hx, hM1⟩ := hv
        have hM2 := hM1.symm
        subst hM2
        generalize F_N_needNode cs M a0 x2 = w7 at hF hx hle ⊢
        by_cases h08 : w7 = 0
        · rw [if_pos h08] at hx
          cases hx
        · rw [if_neg h08] at hF hx hle
          rw [if_neg h08]
          cases hx
          exact c_tleave (fun _ h => h.elim) hex hlocks hle (by rw [← hF]; exact ⟨by rw [if_neg h08], rfl⟩)
    · rw [if_neg h04] at hx
      cases hx
  · rw [mbind_eq] at hF
    obtain ⟨hx, hM1⟩ := hv
    have hM2 := hM1.symm
    subst hM2
    generalize F_N_needNode cs M a0 x1 = w3 at hF hx hle ⊢
    by_cases h04 : w3 = 0
    · rw [if_pos h04] at hx
      cases hx
    · rw [if_neg h04] at hF hx hle
      rw [if_neg h04]
      cases hx
      exact c_tleave (fun _ h => h.elim) hex hlocks hle (by rw [← hF]; exact ⟨by rw [if_neg h04], rfl⟩)
def F_N_fn (cs : Nat → ClassId) (n : Nat) (M : gMem) (a0 : Nat) (x1 : Int32) (x2 : Int32) (x3 : Int32) : Nat × Int32 × gMem := mbind (F_N_needName cs M x1) (fun w2 => if w2 = 0 then (mbind (F_N_needType cs M a0 x2) (fun w6 => if w6 = 0 then (mbind (F_N_needNode cs M a0 x3) (fun w10 => if w10 = 0 then (mbind (F_N_needRoom cs M a0 ) (fun w14 => if w14 = 0 then (mbind (F_No_init cs (gnw M (1, .inr (4, [.int 0, .int 0, .int 0, .int 0, .int 0, .int 0, .int 0, .int 0, .int 0, .int 0, .int 0])) 11) M.2.1 7) (fun w18 => mbind (F_Ns_add cs n (cP 4 (cP 4 (cP 4 w18 M.2.1 2 (.int x1)) M.2.1 1 (.int x2)) M.2.1 4 (.int x3)) ((cQ (cP 4 (cP 4 (cP 4 w18 M.2.1 2 (.int x1)) M.2.1 1 (.int x2)) M.2.1 4 (.int x3)) a0 1).getD 0) (some M.2.1)) (fun w25 => (0, w25.1, w25.2)))) else ((w14, 0, gsk M)))) else ((w10, 0, gsk M)))) else ((w6, 0, gsk M)))) else ((w2, 0, gsk M)))
def S_N_fn (cs : Nat → ClassId) (lim : Nat × Nat) (n : Nat) (M : gMem) (a0 : Nat) (x1 : Int32) (x2 : Int32) (x3 : Int32) : Prop := (S_N_needName cs lim M x1) ∧ (mbind (F_N_needName cs M x1) (fun w2 => if w2 = 0 then ((cOk 0 M a0) ∧ ((S_N_needType cs lim M a0 x2) ∧ (mbind (F_N_needType cs M a0 x2) (fun w6 => if w6 = 0 then ((cOk 0 M a0) ∧ ((S_N_needNode cs lim M a0 x3) ∧ (mbind (F_N_needNode cs M a0 x3) (fun w10 => if w10 = 0 then ((cOk 0 M a0) ∧ ((S_N_needRoom cs lim M a0 ) ∧ (mbind (F_N_needRoom cs M a0 ) (fun w14 => if w14 = 0 then ((M.2.1 + 1 ≤ lim.1 ∧ M.2.2 + 11 ≤ lim.2) ∧ ((S_No_init cs lim (gnw M (1, .inr (4, [.int 0, .int 0, .int 0, .int 0, .int 0, .int 0, .int 0, .int 0, .int 0, .int 0, .int 0])) 11) M.2.1 7) ∧ (mbind (F_No_init cs (gnw M (1, .inr (4, [.int 0, .int 0, .int 0, .int 0, .int 0, .int 0, .int 0, .int 0, .int 0, .int 0, .int 0])) 11) M.2.1 7) (fun w18 => (cOk 4 w18 M.2.1) ∧ ((cOk 4 (cP 4 w18 M.2.1 2 (.int x1)) M.2.1) ∧ ((cOk 4 (cP 4 (cP 4 w18 M.2.1 2 (.int x1)) M.2.1 1 (.int x2)) M.2.1) ∧ ((cOk 0 (cP 4 (cP 4 (cP 4 w18 M.2.1 2 (.int x1)) M.2.1 1 (.int x2)) M.2.1 4 (.int x3)) a0) ∧ ((cOq 3 (cP 4 (cP 4 (cP 4 w18 M.2.1 2 (.int x1)) M.2.1 1 (.int x2)) M.2.1 4 (.int x3)) (cQ (cP 4 (cP 4 (cP 4 w18 M.2.1 2 (.int x1)) M.2.1 1 (.int x2)) M.2.1 4 (.int x3)) a0 1)) ∧ ((S_Ns_add cs lim n (cP 4 (cP 4 (cP 4 w18 M.2.1 2 (.int x1)) M.2.1 1 (.int x2)) M.2.1 4 (.int x3)) ((cQ (cP 4 (cP 4 (cP 4 w18 M.2.1 2 (.int x1)) M.2.1 1 (.int x2)) M.2.1 4 (.int x3)) a0 1).getD 0) (some M.2.1)) ∧ (mbind (F_Ns_add cs n (cP 4 (cP 4 (cP 4 w18 M.2.1 2 (.int x1)) M.2.1 1 (.int x2)) M.2.1 4 (.int x3)) ((cQ (cP 4 (cP 4 (cP 4 w18 M.2.1 2 (.int x1)) M.2.1 1 (.int x2)) M.2.1 4 (.int x3)) a0 1).getD 0) (some M.2.1)) (fun w25 => True))))))))))) else (True))))) else (True))))) else (True))))) else (True)))
set_option maxRecDepth 100000 in
set_option maxHeartbeats 4000000 in
theorem cc_N_fn (l : Launch) (hf : l.flags = pinnedFlags ++ [noTraceFlag]) (D : va_G) (cs : Nat → ClassId) (B : Nat) (dE : Nat × Nat) (lim : Nat × Nat) (n : Nat) (M : gMem) (a0 : Nat) (x1 : Int32) (x2 : Int32) (x3 : Int32) (hS : S_N_fn cs lim n M a0 x1 x2 x3) : cMet l y_N_fn (Cond.code y_N_fn c_N_fn 5 (some .int)) (7) (121) D cs B dE (gA B) lim [.ref a0, .int x1, .int x2, .int x3] M (fun x M' => x = (if (F_N_fn cs n M a0 x1 x2 x3).1 = 0 then .inl (some (.int ((F_N_fn cs n M a0 x1 x2 x3).2.1))) else .inr (exn (F_N_fn cs n M a0 x1 x2 x3).1)) ∧ M' = (F_N_fn cs n M a0 x1 x2 x3).2.2) := by
  refine cMet.ofW (by decide) (Nat.le_of_ble_eq_true rfl) (lv0 := [(0, .ref a0), (1, .int x1), (2, .int x2), (3, .int x3)]) rfl ?_
  intro p e s m args below meth c C hE hR0 hle hr hlocks hex hn
  generalize hF : F_N_fn cs n M a0 x1 x2 x3 = Fv
  unfold F_N_fn at hF
  unfold S_N_fn at hS
  refine g_iload_n C d_N_fn_0 rfl ?_
  obtain ⟨hs1, hS⟩ := hS
  refine c_call (av := [.int x1]) (rest := []) C hE (fun _ h => h.elim) ⟨rfl, rfl⟩ hle (cc_N_needName l hf D cs B dE lim _ x1 hs1) (fun _ h => h.elim) kd_N_needName ki_N (Nat.le_of_ble_eq_true rfl) (Nat.le_of_ble_eq_true rfl) d_N_fn_1 (Nat.le_of_ble_eq_true rfl) (c_fS (n := 1) C km_N_110 ks_N_needName ki_N kd_N_needName ⟨by decide, by decide, by decide⟩ rfl rfl d_N_fn_1) (fun v1 M1 hv hle => ?_) (fun E1 M1 hv hle => ?_)
  · rw [mbind_eq] at hF hS
    obtain ⟨hx, hM1⟩ := hv
    have hM2 := hM1.symm
    subst hM2
    generalize hq_w2 : F_N_needName cs M x1 = w2 at hF hS hx hle ⊢
    by_cases h03 : w2 = 0
    · rw [if_pos h03] at hF hS hx hle
      rw [if_pos h03]
      cases hx
      refine GW.eqs (st' := []) rfl ?_
      refine g_aload_n C d_N_fn_4 rfl ?_
      refine g_iload_n C d_N_fn_5 rfl ?_
      obtain ⟨ho4, hS⟩ := hS
      obtain ⟨hs5, hS⟩ := hS
      refine c_call (av := [.ref a0, .int x2]) (rest := []) C hE (fun _ h => h.elim) ⟨rfl, rfl⟩ hle (cc_N_needType l hf D cs B dE lim _ a0 x2 hs5) (fun _ h => h.elim) kd_N_needType ki_N (Nat.le_of_ble_eq_true rfl) (Nat.le_of_ble_eq_true rfl) d_N_fn_6 (Nat.le_of_ble_eq_true rfl) (c_fV (n := 1) (ci := 0) C hE.1 rfl km_N_76 kv_N_needType kl_N_needType kd_N_needType ⟨by decide, by decide, by decide⟩ rfl rfl d_N_fn_6 ho4) (fun v1 M1 hv hle => ?_) (fun E1 M1 hv hle => ?_)
      · rw [mbind_eq] at hF hS
        obtain ⟨hx, hM1⟩ := hv
        have hM2 := hM1.symm
        subst hM2
        generalize hq_w6 : F_N_needType cs M a0 x2 = w6 at hF hS hx hle ⊢
        by_cases h07 : w6 = 0
        · rw [if_pos h07] at hF hS hx hle
          rw [if_pos h07]
          cases hx
          refine GW.eqs (st' := []) rfl ?_
          refine g_aload_n C d_N_fn_9 rfl ?_
          refine g_iload_n C d_N_fn_10 rfl ?_
          obtain ⟨ho8, hS⟩ := hS
          obtain ⟨hs9, hS⟩ := hS
          refine c_call (av := [.ref a0, .int x3]) (rest := []) C hE (fun _ h => h.elim) ⟨rfl, rfl⟩ hle (cc_N_needNode l hf D cs B dE lim _ a0 x3 hs9) (fun _ h => h.elim) kd_N_needNode ki_N (Nat.le_of_ble_eq_true rfl) (Nat.le_of_ble_eq_true rfl) d_N_fn_11 (Nat.le_of_ble_eq_true rfl) (c_fV (n := 1) (ci := 0) C hE.1 rfl km_N_128 kv_N_needNode kl_N_needNode kd_N_needNode ⟨by decide, by decide, by decide⟩ rfl rfl d_N_fn_11 ho8) (fun v1 M1 hv hle => ?_) (fun E1 M1 hv hle => ?_)
          · rw [mbind_eq] at hF hS
            obtain ⟨hx, hM1⟩ := hv
            have hM2 := hM1.symm
            subst hM2
            generalize hq_w10 : F_N_needNode cs M a0 x3 = w10 at hF hS hx hle ⊢
            by_cases h011 : w10 = 0
            · rw [if_pos h011] at hF hS hx hle
              rw [if_pos h011]
              cases hx
              refine GW.eqs (st' := []) rfl ?_
              refine g_aload_n C d_N_fn_14 rfl ?_
              obtain ⟨ho12, hS⟩ := hS
              obtain ⟨hs13, hS⟩ := hS
              refine c_call (av := [.ref a0]) (rest := []) C hE (fun _ h => h.elim) ⟨rfl, rfl⟩ hle (cc_N_needRoom l hf D cs B dE lim _ a0  hs13) (fun _ h => h.elim) kd_N_needRoom ki_N (Nat.le_of_ble_eq_true rfl) (Nat.le_of_ble_eq_true rfl) d_N_fn_15 (Nat.le_of_ble_eq_true rfl) (c_fV (n := 0) (ci := 0) C hE.1 rfl km_N_113 kv_N_needRoom kl_N_needRoom kd_N_needRoom ⟨by decide, by decide, by decide⟩ rfl rfl d_N_fn_15 ho12) (fun v1 M1 hv hle => ?_) (fun E1 M1 hv hle => ?_)
              · rw [mbind_eq] at hF hS
                obtain ⟨hx, hM1⟩ := hv
                have hM2 := hM1.symm
                subst hM2
                generalize hq_w14 : F_N_needRoom cs M a0  = w14 at hF hS hx hle ⊢
                by_cases h015 : w14 = 0
                · rw [if_pos h015] at hF hS hx hle
                  rw [if_pos h015]
                  cases hx
                  refine GW.eqs (st' := []) rfl ?_
                  refine GW.more (A' := gA B) (fun _ h => h.elim) ?_
                  obtain ⟨hl16, hS⟩ := hS
                  refine c_new (M0 := M) (M := M) (ci := 4) (N := 11) (fs := [.int 0, .int 0, .int 0, .int 0, .int 0, .int 0, .int 0, .int 0, .int 0, .int 0, .int 0]) C hE.1 ⟨rfl, rfl⟩ hle i_No rfl t_No t_No_ok kc_N_116 kn_No ki_No (by decide) d_N_fn_18 hl16 (fun hle => ?_)
                  refine g_dup C d_N_fn_21 rfl ?_
                  refine g_bipush (v := 7) C d_N_fn_22 (by decide) ?_
                  obtain ⟨hs17, hS⟩ := hS
                  refine c_call (av := [.ref M.2.1, .int 7]) (rest := [.ref M.2.1]) C hE (fun _ h => h) ⟨rfl, rfl⟩ hle (cc_No_init l hf D cs B dE lim _ M.2.1 7 hs17) (fun _ h => h) kd_No_init ki_No (Nat.le_of_ble_eq_true rfl) (Nat.le_of_ble_eq_true rfl) d_N_fn_24 (Nat.le_of_ble_eq_true rfl) (c_fI (n := 1) C rfl km_N_118 kv_No_init kd_No_init ⟨by decide, by decide, by decide⟩ rfl rfl d_N_fn_24) (fun v1 M1 hv hle => ?_) (fun E1 M1 hv hle => ?_)
                  · rw [mbind_eq] at hF hS
                    obtain ⟨hx, hM1⟩ := hv
                    have hM2 := hM1.symm
                    subst hM2
                    generalize hq_w18 : F_No_init cs (gnw M (1, .inr (4, [.int 0, .int 0, .int 0, .int 0, .int 0, .int 0, .int 0, .int 0, .int 0, .int 0, .int 0])) 11) M.2.1 7 = w18 at hF hS hx hle ⊢
                    cases hx
                    refine GW.eqs (st' := [.ref M.2.1]) rfl ?_
                    refine g_astore (lv' := [(4, .ref M.2.1), (0, .ref a0), (1, .int x1), (2, .int x2), (3, .int x3)]) C d_N_fn_27 (by decide) rfl ?_
                    refine g_aload C d_N_fn_29 rfl ?_
                    refine g_iload_n C d_N_fn_31 rfl ?_
                    obtain ⟨ho19, hS⟩ := hS
                    refine k_put (M0 := M) (M := w18) C hE.1 (ci := 4) i_No rfl 2 (by decide) (by decide) kf_N_131 t_No t_No_ok n_No rfl (nf_i _) d_N_fn_32 ho19 ?_
                    replace hle := cLe.cP (ci := 4) (a := M.2.1) (k := 2) (v := .int x1) hle
                    refine g_aload C d_N_fn_35 rfl ?_
                    refine g_iload_n C d_N_fn_37 rfl ?_
                    obtain ⟨ho20, hS⟩ := hS
                    refine k_put (M0 := M) (M := cP 4 w18 M.2.1 2 (.int x1)) C hE.1 (ci := 4) i_No rfl 1 (by decide) (by decide) kf_N_120 t_No t_No_ok n_No rfl (nf_i _) d_N_fn_38 ho20 ?_
                    replace hle := cLe.cP (ci := 4) (a := M.2.1) (k := 1) (v := .int x2) hle
                    refine g_aload C d_N_fn_41 rfl ?_
                    refine g_iload_n C d_N_fn_43 rfl ?_
                    obtain ⟨ho21, hS⟩ := hS
                    refine k_put (M0 := M) (M := cP 4 (cP 4 w18 M.2.1 2 (.int x1)) M.2.1 1 (.int x2)) C hE.1 (ci := 4) i_No rfl 4 (by decide) (by decide) kf_N_134 t_No t_No_ok n_No rfl (nf_i _) d_N_fn_44 ho21 ?_
                    replace hle := cLe.cP (ci := 4) (a := M.2.1) (k := 4) (v := .int x3) hle
                    refine g_aload_n C d_N_fn_47 rfl ?_
                    obtain ⟨ho22, hS⟩ := hS
                    refine c_getq C hE.1 (ci := 0) i_N rfl 1 (by decide) (by decide) (by decide) kf_N_19 d_N_fn_48 ho22 ?_
                    refine g_aload C d_N_fn_51 rfl ?_
                    obtain ⟨ho23, hS⟩ := hS
                    refine GW.known2 (a := (cQ (cP 4 (cP 4 (cP 4 w18 M.2.1 2 (.int x1)) M.2.1 1 (.int x2)) M.2.1 4 (.int x3)) a0 1).getD 0) (cOq.at ho23).1 ?_
                    obtain ⟨hs24, hS⟩ := hS
                    refine c_call (av := [.ref ((cQ (cP 4 (cP 4 (cP 4 w18 M.2.1 2 (.int x1)) M.2.1 1 (.int x2)) M.2.1 4 (.int x3)) a0 1).getD 0), .ref M.2.1]) (rest := []) C hE (fun _ h => h) ⟨rfl, rfl⟩ hle (cc_Ns_add l hf D cs B dE lim n _ ((cQ (cP 4 (cP 4 (cP 4 w18 M.2.1 2 (.int x1)) M.2.1 1 (.int x2)) M.2.1 4 (.int x3)) a0 1).getD 0) (some M.2.1) hs24) (fun _ h => h) kd_Ns_add ki_Ns (Nat.le_of_ble_eq_true rfl) (Nat.le_of_ble_eq_true rfl) d_N_fn_53 (Nat.le_of_ble_eq_true rfl) (c_fV (n := 1) (ci := 3) C hE.1 rfl km_N_124 kv_Ns_add kl_Ns_add kd_Ns_add ⟨by decide, by decide, by decide⟩ rfl rfl d_N_fn_53 (cOq.at ho23).2) (fun v1 M1 hv hle => ?_) (fun E1 M1 hv hle => ?_)
                    · rw [mbind_eq] at hF hS
                      obtain ⟨hx, hM1⟩ := hv
                      have hM2 := hM1.symm
                      subst hM2
                      generalize hq_w25 : F_Ns_add cs n (cP 4 (cP 4 (cP 4 w18 M.2.1 2 (.int x1)) M.2.1 1 (.int x2)) M.2.1 4 (.int x3)) ((cQ (cP 4 (cP 4 (cP 4 w18 M.2.1 2 (.int x1)) M.2.1 1 (.int x2)) M.2.1 4 (.int x3)) a0 1).getD 0) (some M.2.1) = w25 at hF hS hx hle ⊢
                      cases hx
                      refine GW.eqs (st' := [.int w25.1]) rfl ?_
                      exact c_iret (M := w25.2) C hr hlocks hle d_N_fn_56 (by rw [← hF]; exact ⟨(if_pos rfl).symm, rfl⟩)
                    · cases hv.1
                  · cases hv.1
                · rw [if_neg h015] at hx
                  cases hx
              · rw [mbind_eq] at hF
                obtain ⟨hx, hM1⟩ := hv
                have hM2 := hM1.symm
                subst hM2
                generalize F_N_needRoom cs M a0  = w14 at hF hx hle ⊢
                by_cases h015 : w14 = 0
                · rw [if_pos h015] at hx
                  cases hx
                · rw [if_neg h015] at hF hx hle
                  rw [if_neg h015]
                  cases hx
                  exact c_tleave (fun _ h => h.elim) hex hlocks hle (by rw [← hF]; exact ⟨by rw [if_neg h015], rfl⟩)
            · rw [if_neg h011] at hx
              cases hx
          · rw [mbind_eq] at hF
            obtain ⟨hx, hM1⟩ := hv
            have hM2 := hM1.symm
            subst hM2
            generalize F_N_needNode cs M a0 x3 = w10 at hF hx hle ⊢
            by_cases h011 : w10 = 0
            · rw [if_pos h011] at hx
              cases hx
            · rw [if_neg h011] at hF hx hle
              rw [if_neg h011]
              cases hx
              exact c_tleave (fun _ h => h.elim) hex hlocks hle (by rw [← hF]; exact ⟨by rw [if_neg h011], rfl⟩)
        · rw [if_neg h07] at hx
          cases hx
      · rw [mbind_eq] at hF
        obtain ⟨hx, hM1⟩ := hv
        have hM2 := hM1.symm
        subst hM2
        generalize F_N_needType cs M a0 x2 = w6 at hF hx hle ⊢
        by_cases h07 : w6 = 0
        · rw [if_pos h07] at hx
          cases hx
        · rw [if_neg h07] at hF hx hle
          rw [if_neg h07]
          cases hx
          exact c_tleave (fun _ h => h.elim) hex hlocks hle (by rw [← hF]; exact ⟨by rw [if_neg h07], rfl⟩)
    · rw [if_neg h03] at hx
      cases hx
  · rw [mbind_eq] at hF
    obtain ⟨hx, hM1⟩ := hv
    have hM2 := hM1.symm
    subst hM2
    generalize F_N_needName cs M x1 = w2 at hF hx hle ⊢
    by_cases h03 : w2 = 0
    · rw [if_pos h03] at hx
      cases hx
    · rw [if_neg h03] at hF hx hle
      rw [if_neg h03]
      cases hx
      exact c_tleave (fun _ h => h.elim) hex hlocks hle (by rw [← hF]; exact ⟨by rw [if_neg h03], rfl⟩)
def F_N_clause (cs : Nat → ClassId) (M : gMem) (a0 : Nat) (x1 : Int32) (x2 : Int32) (x3 : Int32) (x4 : Int32) : Nat × Int32 × gMem := mbind (F_N_needEffect cs M x1) (fun w2 => if w2 = 0 then (mbind (F_N_needName cs M x2) (fun w5 => if w5 = 0 then (mbind (F_N_needName cs M x3) (fun w8 => if w8 = 0 then (mbind (F_N_needNode cs M a0 x4) (fun w12 => if w12 = 0 then (mbind (F_Ns_hasRoomForClause cs M ((cQ M a0 1).getD 0) ) (fun w17 => if w17 = 0 then ((2, 0, gsk M)) else (mbind (F_Cl_init cs (gnw M (1, .inr (5, [.int 0, .int 0, .int 0, .int 0])) 4) M.2.1 x1 x2 x3 x4) (fun w22 => mbind (F_Ns_makeReady cs w22 ((cQ M a0 1).getD 0) (some M.2.1)) (fun w25 => (0, w25.1, w25.2)))))) else ((w12, 0, gsk M)))) else ((w8, 0, gsk M)))) else ((w5, 0, gsk M)))) else ((w2, 0, gsk M)))
def S_N_clause (cs : Nat → ClassId) (lim : Nat × Nat) (M : gMem) (a0 : Nat) (x1 : Int32) (x2 : Int32) (x3 : Int32) (x4 : Int32) : Prop := (S_N_needEffect cs lim M x1) ∧ (mbind (F_N_needEffect cs M x1) (fun w2 => if w2 = 0 then ((S_N_needName cs lim M x2) ∧ (mbind (F_N_needName cs M x2) (fun w5 => if w5 = 0 then ((S_N_needName cs lim M x3) ∧ (mbind (F_N_needName cs M x3) (fun w8 => if w8 = 0 then ((cOk 0 M a0) ∧ ((S_N_needNode cs lim M a0 x4) ∧ (mbind (F_N_needNode cs M a0 x4) (fun w12 => if w12 = 0 then ((cOk 0 M a0) ∧ ((cOq 3 M (cQ M a0 1)) ∧ ((S_Ns_hasRoomForClause cs lim M ((cQ M a0 1).getD 0) ) ∧ (mbind (F_Ns_hasRoomForClause cs M ((cQ M a0 1).getD 0) ) (fun w17 => if w17 = 0 then ((M.2.1 + 1 ≤ lim.1 ∧ M.2.2 + 6 ≤ lim.2) ∧ (True)) else ((cOk 0 M a0) ∧ ((M.2.1 + 1 ≤ lim.1 ∧ M.2.2 + 4 ≤ lim.2) ∧ ((S_Cl_init cs lim (gnw M (1, .inr (5, [.int 0, .int 0, .int 0, .int 0])) 4) M.2.1 x1 x2 x3 x4) ∧ (mbind (F_Cl_init cs (gnw M (1, .inr (5, [.int 0, .int 0, .int 0, .int 0])) 4) M.2.1 x1 x2 x3 x4) (fun w22 => (cOq 3 w22 (cQ M a0 1)) ∧ ((S_Ns_makeReady cs lim w22 ((cQ M a0 1).getD 0) (some M.2.1)) ∧ (mbind (F_Ns_makeReady cs w22 ((cQ M a0 1).getD 0) (some M.2.1)) (fun w25 => True))))))))))))) else (True))))) else (True)))) else (True)))) else (True)))
set_option maxRecDepth 100000 in
set_option maxHeartbeats 4000000 in
theorem cc_N_clause (l : Launch) (hf : l.flags = pinnedFlags ++ [noTraceFlag]) (D : va_G) (cs : Nat → ClassId) (B : Nat) (dE : Nat × Nat) (lim : Nat × Nat) (M : gMem) (a0 : Nat) (x1 : Int32) (x2 : Int32) (x3 : Int32) (x4 : Int32) (hS : S_N_clause cs lim M a0 x1 x2 x3 x4) : cMet l y_N_clause (Cond.code y_N_clause c_N_clause 5 (some .int)) (7) (121) D cs B dE (gA B) lim [.ref a0, .int x1, .int x2, .int x3, .int x4] M (fun x M' => x = (if (F_N_clause cs M a0 x1 x2 x3 x4).1 = 0 then .inl (some (.int ((F_N_clause cs M a0 x1 x2 x3 x4).2.1))) else .inr (exn (F_N_clause cs M a0 x1 x2 x3 x4).1)) ∧ M' = (F_N_clause cs M a0 x1 x2 x3 x4).2.2) := by
  refine cMet.ofW (by decide) (Nat.le_of_ble_eq_true rfl) (lv0 := [(0, .ref a0), (1, .int x1), (2, .int x2), (3, .int x3), (4, .int x4)]) rfl ?_
  intro p e s m args below meth c C hE hR0 hle hr hlocks hex hn
  generalize hF : F_N_clause cs M a0 x1 x2 x3 x4 = Fv
  unfold F_N_clause at hF
  unfold S_N_clause at hS
  refine g_iload_n C d_N_clause_0 rfl ?_
  obtain ⟨hs1, hS⟩ := hS
  refine c_call (av := [.int x1]) (rest := []) C hE (fun _ h => h.elim) ⟨rfl, rfl⟩ hle (cc_N_needEffect l hf D cs B dE lim _ x1 hs1) (fun _ h => h.elim) kd_N_needEffect ki_N (Nat.le_of_ble_eq_true rfl) (Nat.le_of_ble_eq_true rfl) d_N_clause_1 (Nat.le_of_ble_eq_true rfl) (c_fS (n := 1) C km_N_100 ks_N_needEffect ki_N kd_N_needEffect ⟨by decide, by decide, by decide⟩ rfl rfl d_N_clause_1) (fun v1 M1 hv hle => ?_) (fun E1 M1 hv hle => ?_)
  · rw [mbind_eq] at hF hS
    obtain ⟨hx, hM1⟩ := hv
    have hM2 := hM1.symm
    subst hM2
    generalize hq_w2 : F_N_needEffect cs M x1 = w2 at hF hS hx hle ⊢
    by_cases h03 : w2 = 0
    · rw [if_pos h03] at hF hS hx hle
      rw [if_pos h03]
      cases hx
      refine GW.eqs (st' := []) rfl ?_
      refine g_iload_n C d_N_clause_4 rfl ?_
      obtain ⟨hs4, hS⟩ := hS
      refine c_call (av := [.int x2]) (rest := []) C hE (fun _ h => h.elim) ⟨rfl, rfl⟩ hle (cc_N_needName l hf D cs B dE lim _ x2 hs4) (fun _ h => h.elim) kd_N_needName ki_N (Nat.le_of_ble_eq_true rfl) (Nat.le_of_ble_eq_true rfl) d_N_clause_5 (Nat.le_of_ble_eq_true rfl) (c_fS (n := 1) C km_N_110 ks_N_needName ki_N kd_N_needName ⟨by decide, by decide, by decide⟩ rfl rfl d_N_clause_5) (fun v1 M1 hv hle => ?_) (fun E1 M1 hv hle => ?_)
      · rw [mbind_eq] at hF hS
        obtain ⟨hx, hM1⟩ := hv
        have hM2 := hM1.symm
        subst hM2
        generalize hq_w5 : F_N_needName cs M x2 = w5 at hF hS hx hle ⊢
        by_cases h06 : w5 = 0
        · rw [if_pos h06] at hF hS hx hle
          rw [if_pos h06]
          cases hx
          refine GW.eqs (st' := []) rfl ?_
          refine g_iload_n C d_N_clause_8 rfl ?_
          obtain ⟨hs7, hS⟩ := hS
          refine c_call (av := [.int x3]) (rest := []) C hE (fun _ h => h.elim) ⟨rfl, rfl⟩ hle (cc_N_needName l hf D cs B dE lim _ x3 hs7) (fun _ h => h.elim) kd_N_needName ki_N (Nat.le_of_ble_eq_true rfl) (Nat.le_of_ble_eq_true rfl) d_N_clause_9 (Nat.le_of_ble_eq_true rfl) (c_fS (n := 1) C km_N_110 ks_N_needName ki_N kd_N_needName ⟨by decide, by decide, by decide⟩ rfl rfl d_N_clause_9) (fun v1 M1 hv hle => ?_) (fun E1 M1 hv hle => ?_)
          · rw [mbind_eq] at hF hS
            obtain ⟨hx, hM1⟩ := hv
            have hM2 := hM1.symm
            subst hM2
            generalize hq_w8 : F_N_needName cs M x3 = w8 at hF hS hx hle ⊢
            by_cases h09 : w8 = 0
            · rw [if_pos h09] at hF hS hx hle
              rw [if_pos h09]
              cases hx
              refine GW.eqs (st' := []) rfl ?_
              refine g_aload_n C d_N_clause_12 rfl ?_
              refine g_iload C d_N_clause_13 rfl ?_
              obtain ⟨ho10, hS⟩ := hS
              obtain ⟨hs11, hS⟩ := hS
              refine c_call (av := [.ref a0, .int x4]) (rest := []) C hE (fun _ h => h.elim) ⟨rfl, rfl⟩ hle (cc_N_needNode l hf D cs B dE lim _ a0 x4 hs11) (fun _ h => h.elim) kd_N_needNode ki_N (Nat.le_of_ble_eq_true rfl) (Nat.le_of_ble_eq_true rfl) d_N_clause_15 (Nat.le_of_ble_eq_true rfl) (c_fV (n := 1) (ci := 0) C hE.1 rfl km_N_128 kv_N_needNode kl_N_needNode kd_N_needNode ⟨by decide, by decide, by decide⟩ rfl rfl d_N_clause_15 ho10) (fun v1 M1 hv hle => ?_) (fun E1 M1 hv hle => ?_)
              · rw [mbind_eq] at hF hS
                obtain ⟨hx, hM1⟩ := hv
                have hM2 := hM1.symm
                subst hM2
                generalize hq_w12 : F_N_needNode cs M a0 x4 = w12 at hF hS hx hle ⊢
                by_cases h013 : w12 = 0
                · rw [if_pos h013] at hF hS hx hle
                  rw [if_pos h013]
                  cases hx
                  refine GW.eqs (st' := []) rfl ?_
                  refine g_aload_n C d_N_clause_18 rfl ?_
                  obtain ⟨ho14, hS⟩ := hS
                  refine c_getq C hE.1 (ci := 0) i_N rfl 1 (by decide) (by decide) (by decide) kf_N_19 d_N_clause_19 ho14 ?_
                  obtain ⟨ho15, hS⟩ := hS
                  refine GW.known1 (a := (cQ M a0 1).getD 0) (cOq.at ho15).1 ?_
                  obtain ⟨hs16, hS⟩ := hS
                  refine c_call (av := [.ref ((cQ M a0 1).getD 0)]) (rest := []) C hE (fun _ h => h.elim) ⟨rfl, rfl⟩ hle (cc_Ns_hasRoomForClause l hf D cs B dE lim _ ((cQ M a0 1).getD 0)  hs16) (fun _ h => h.elim) kd_Ns_hasRoomForClause ki_Ns (Nat.le_of_ble_eq_true rfl) (Nat.le_of_ble_eq_true rfl) d_N_clause_22 (Nat.le_of_ble_eq_true rfl) (c_fV (n := 0) (ci := 3) C hE.1 rfl km_N_152 kv_Ns_hasRoomForClause kl_Ns_hasRoomForClause kd_Ns_hasRoomForClause ⟨by decide, by decide, by decide⟩ rfl rfl d_N_clause_22 (cOq.at ho15).2) (fun v1 M1 hv hle => ?_) (fun E1 M1 hv hle => ?_)
                  · rw [mbind_eq] at hF hS
                    obtain ⟨hx, hM1⟩ := hv
                    have hM2 := hM1.symm
                    subst hM2
                    generalize hq_w17 : F_Ns_hasRoomForClause cs M ((cQ M a0 1).getD 0)  = w17 at hF hS hx hle ⊢
                    cases hx
                    refine GW.eqs (st' := [.int w17]) rfl ?_
                    refine g_if_ne C 38 d_N_clause_25 (by decide) (fun hc18 => ?_) (fun hc18 => ?_)
                    · rw [if_neg hc18] at hF hS
                      refine g_aload_n C d_N_clause_38 rfl ?_
                      obtain ⟨ho19, hS⟩ := hS
                      refine c_getq C hE.1 (ci := 0) i_N rfl 1 (by decide) (by decide) (by decide) kf_N_19 d_N_clause_39 ho19 ?_
                      refine GW.more (A' := gA B) (fun _ h => h.elim) ?_
                      obtain ⟨hl20, hS⟩ := hS
                      refine c_new (M0 := M) (M := M) (ci := 5) (N := 4) (fs := [.int 0, .int 0, .int 0, .int 0]) C hE.1 ⟨rfl, rfl⟩ hle i_Cl rfl t_Cl t_Cl_ok kc_N_158 kn_Cl ki_Cl (by decide) d_N_clause_42 hl20 (fun hle => ?_)
                      refine g_dup C d_N_clause_45 rfl ?_
                      refine g_iload_n C d_N_clause_46 rfl ?_
                      refine g_iload_n C d_N_clause_47 rfl ?_
                      refine g_iload_n C d_N_clause_48 rfl ?_
                      refine g_iload C d_N_clause_49 rfl ?_
                      obtain ⟨hs21, hS⟩ := hS
                      refine c_call (av := [.ref M.2.1, .int x1, .int x2, .int x3, .int x4]) (rest := [.ref M.2.1, va_rf (cQ M a0 1)]) C hE (fun _ h => h) ⟨rfl, rfl⟩ hle (cc_Cl_init l hf D cs B dE lim _ M.2.1 x1 x2 x3 x4 hs21) (fun _ h => h) kd_Cl_init ki_Cl (Nat.le_of_ble_eq_true rfl) (Nat.le_of_ble_eq_true rfl) d_N_clause_51 (by simp only [List.map_cons, List.map_nil, rf_cat, List.sum_cons, List.sum_nil]; exact Nat.le_of_ble_eq_true rfl) (c_fI (n := 4) C rfl km_N_160 kv_Cl_init kd_Cl_init ⟨by decide, by decide, by decide⟩ rfl rfl d_N_clause_51) (fun v1 M1 hv hle => ?_) (fun E1 M1 hv hle => ?_)
                      · rw [mbind_eq] at hF hS
                        obtain ⟨hx, hM1⟩ := hv
                        have hM2 := hM1.symm
                        subst hM2
                        generalize hq_w22 : F_Cl_init cs (gnw M (1, .inr (5, [.int 0, .int 0, .int 0, .int 0])) 4) M.2.1 x1 x2 x3 x4 = w22 at hF hS hx hle ⊢
                        cases hx
                        refine GW.eqs (st' := [.ref M.2.1, va_rf (cQ M a0 1)]) rfl ?_
                        obtain ⟨ho23, hS⟩ := hS
                        refine GW.known2 (a := (cQ M a0 1).getD 0) (cOq.at ho23).1 ?_
                        obtain ⟨hs24, hS⟩ := hS
                        refine c_call (av := [.ref ((cQ M a0 1).getD 0), .ref M.2.1]) (rest := []) C hE (fun _ h => h) ⟨rfl, rfl⟩ hle (cc_Ns_makeReady l hf D cs B dE lim _ ((cQ M a0 1).getD 0) (some M.2.1) hs24) (fun _ h => h) kd_Ns_makeReady ki_Ns (Nat.le_of_ble_eq_true rfl) (Nat.le_of_ble_eq_true rfl) d_N_clause_54 (Nat.le_of_ble_eq_true rfl) (c_fV (n := 1) (ci := 3) C hE.1 rfl km_N_163 kv_Ns_makeReady kl_Ns_makeReady kd_Ns_makeReady ⟨by decide, by decide, by decide⟩ rfl rfl d_N_clause_54 (cOq.at ho23).2) (fun v1 M1 hv hle => ?_) (fun E1 M1 hv hle => ?_)
                        · rw [mbind_eq] at hF hS
                          obtain ⟨hx, hM1⟩ := hv
                          have hM2 := hM1.symm
                          subst hM2
                          generalize hq_w25 : F_Ns_makeReady cs w22 ((cQ M a0 1).getD 0) (some M.2.1) = w25 at hF hS hx hle ⊢
                          cases hx
                          refine GW.eqs (st' := [.int w25.1]) rfl ?_
                          exact c_iret (M := w25.2) C hr hlocks hle d_N_clause_57 (by rw [← hF]; exact ⟨(if_pos rfl).symm, rfl⟩)
                        · cases hv.1
                      · cases hv.1
                    · rw [if_pos hc18] at hF hS
                      obtain ⟨hl26, hS⟩ := hS
                      exact c_throw C hf hex hlocks hR0 hl26 (gAts_of C hE (by decide +kernel) (by decide +kernel) ats_Sx) (gE_st hE kq_N_156) kc_N_90 kn_Sx ki_Sx ⟨rfl, rfl⟩ d_N_clause_28 d_N_clause_31 d_N_clause_32 d_N_clause_34 d_N_clause_37 (Nat.le_of_ble_eq_true rfl) (Nat.le_of_ble_eq_true rfl) (by rw [← hF]; exact ⟨rfl, rfl⟩)
                  · cases hv.1
                · rw [if_neg h013] at hx
                  cases hx
              · rw [mbind_eq] at hF
                obtain ⟨hx, hM1⟩ := hv
                have hM2 := hM1.symm
                subst hM2
                generalize F_N_needNode cs M a0 x4 = w12 at hF hx hle ⊢
                by_cases h013 : w12 = 0
                · rw [if_pos h013] at hx
                  cases hx
                · rw [if_neg h013] at hF hx hle
                  rw [if_neg h013]
                  cases hx
                  exact c_tleave (fun _ h => h.elim) hex hlocks hle (by rw [← hF]; exact ⟨by rw [if_neg h013], rfl⟩)
            · rw [if_neg h09] at hx
              cases hx
          · rw [mbind_eq] at hF
            obtain ⟨hx, hM1⟩ := hv
            have hM2 := hM1.symm
            subst hM2
            generalize F_N_needName cs M x3 = w8 at hF hx hle ⊢
            by_cases h09 : w8 = 0
            · rw [if_pos h09] at hx
              cases hx
            · rw [if_neg h09] at hF hx hle
              rw [if_neg h09]
              cases hx
              exact c_tleave (fun _ h => h.elim) hex hlocks hle (by rw [← hF]; exact ⟨by rw [if_neg h09], rfl⟩)
        · rw [if_neg h06] at hx
          cases hx
      · rw [mbind_eq] at hF
        obtain ⟨hx, hM1⟩ := hv
        have hM2 := hM1.symm
        subst hM2
        generalize F_N_needName cs M x2 = w5 at hF hx hle ⊢
        by_cases h06 : w5 = 0
        · rw [if_pos h06] at hx
          cases hx
        · rw [if_neg h06] at hF hx hle
          rw [if_neg h06]
          cases hx
          exact c_tleave (fun _ h => h.elim) hex hlocks hle (by rw [← hF]; exact ⟨by rw [if_neg h06], rfl⟩)
    · rw [if_neg h03] at hx
      cases hx
  · rw [mbind_eq] at hF
    obtain ⟨hx, hM1⟩ := hv
    have hM2 := hM1.symm
    subst hM2
    generalize F_N_needEffect cs M x1 = w2 at hF hx hle ⊢
    by_cases h03 : w2 = 0
    · rw [if_pos h03] at hx
      cases hx
    · rw [if_neg h03] at hF hx hle
      rw [if_neg h03]
      cases hx
      exact c_tleave (fun _ h => h.elim) hex hlocks hle (by rw [← hF]; exact ⟨by rw [if_neg h03], rfl⟩)
def F_N_handle (cs : Nat → ClassId) (n : Nat) (M : gMem) (a0 : Nat) (x1 : Int32) (x2 : Int32) (x3 : Int32) (x4 : Int32) : Nat × Int32 × gMem := mbind (F_N_needNode cs M a0 x1) (fun w3 => if w3 = 0 then (mbind (F_N_needRow cs M x2) (fun w6 => if w6 = 0 then (mbind (F_N_needName cs M x3) (fun w9 => if w9 = 0 then (mbind (F_N_needNode cs M a0 x4) (fun w13 => if w13 = 0 then (mbind (F_N_needRoom cs M a0 ) (fun w17 => if w17 = 0 then (mbind (F_No_init cs (gnw M (1, .inr (4, [.int 0, .int 0, .int 0, .int 0, .int 0, .int 0, .int 0, .int 0, .int 0, .int 0, .int 0])) 11) M.2.1 8) (fun w21 => mbind (F_Ns_giveReadyClauses cs (cP 4 (cP 4 (cP 4 (cP 4 w21 M.2.1 1 (.int x2)) M.2.1 2 (.int x3)) M.2.1 4 (.int x1)) M.2.1 5 (.int x4)) ((cQ (cP 4 (cP 4 (cP 4 (cP 4 w21 M.2.1 1 (.int x2)) M.2.1 2 (.int x3)) M.2.1 4 (.int x1)) M.2.1 5 (.int x4)) a0 1).getD 0) (some M.2.1)) (fun w29 => mbind (F_Ns_add cs n w29 ((cQ w29 a0 1).getD 0) (some M.2.1)) (fun w33 => (0, w33.1, w33.2))))) else ((w17, 0, gsk M)))) else ((w13, 0, gsk M)))) else ((w9, 0, gsk M)))) else ((w6, 0, gsk M)))) else ((w3, 0, gsk M)))
def S_N_handle (cs : Nat → ClassId) (lim : Nat × Nat) (n : Nat) (M : gMem) (a0 : Nat) (x1 : Int32) (x2 : Int32) (x3 : Int32) (x4 : Int32) : Prop := (cOk 0 M a0) ∧ ((S_N_needNode cs lim M a0 x1) ∧ (mbind (F_N_needNode cs M a0 x1) (fun w3 => if w3 = 0 then ((S_N_needRow cs lim M x2) ∧ (mbind (F_N_needRow cs M x2) (fun w6 => if w6 = 0 then ((S_N_needName cs lim M x3) ∧ (mbind (F_N_needName cs M x3) (fun w9 => if w9 = 0 then ((cOk 0 M a0) ∧ ((S_N_needNode cs lim M a0 x4) ∧ (mbind (F_N_needNode cs M a0 x4) (fun w13 => if w13 = 0 then ((cOk 0 M a0) ∧ ((S_N_needRoom cs lim M a0 ) ∧ (mbind (F_N_needRoom cs M a0 ) (fun w17 => if w17 = 0 then ((M.2.1 + 1 ≤ lim.1 ∧ M.2.2 + 11 ≤ lim.2) ∧ ((S_No_init cs lim (gnw M (1, .inr (4, [.int 0, .int 0, .int 0, .int 0, .int 0, .int 0, .int 0, .int 0, .int 0, .int 0, .int 0])) 11) M.2.1 8) ∧ (mbind (F_No_init cs (gnw M (1, .inr (4, [.int 0, .int 0, .int 0, .int 0, .int 0, .int 0, .int 0, .int 0, .int 0, .int 0, .int 0])) 11) M.2.1 8) (fun w21 => (cOk 4 w21 M.2.1) ∧ ((cOk 4 (cP 4 w21 M.2.1 1 (.int x2)) M.2.1) ∧ ((cOk 4 (cP 4 (cP 4 w21 M.2.1 1 (.int x2)) M.2.1 2 (.int x3)) M.2.1) ∧ ((cOk 4 (cP 4 (cP 4 (cP 4 w21 M.2.1 1 (.int x2)) M.2.1 2 (.int x3)) M.2.1 4 (.int x1)) M.2.1) ∧ ((cOk 0 (cP 4 (cP 4 (cP 4 (cP 4 w21 M.2.1 1 (.int x2)) M.2.1 2 (.int x3)) M.2.1 4 (.int x1)) M.2.1 5 (.int x4)) a0) ∧ ((cOq 3 (cP 4 (cP 4 (cP 4 (cP 4 w21 M.2.1 1 (.int x2)) M.2.1 2 (.int x3)) M.2.1 4 (.int x1)) M.2.1 5 (.int x4)) (cQ (cP 4 (cP 4 (cP 4 (cP 4 w21 M.2.1 1 (.int x2)) M.2.1 2 (.int x3)) M.2.1 4 (.int x1)) M.2.1 5 (.int x4)) a0 1)) ∧ ((S_Ns_giveReadyClauses cs lim (cP 4 (cP 4 (cP 4 (cP 4 w21 M.2.1 1 (.int x2)) M.2.1 2 (.int x3)) M.2.1 4 (.int x1)) M.2.1 5 (.int x4)) ((cQ (cP 4 (cP 4 (cP 4 (cP 4 w21 M.2.1 1 (.int x2)) M.2.1 2 (.int x3)) M.2.1 4 (.int x1)) M.2.1 5 (.int x4)) a0 1).getD 0) (some M.2.1)) ∧ (mbind (F_Ns_giveReadyClauses cs (cP 4 (cP 4 (cP 4 (cP 4 w21 M.2.1 1 (.int x2)) M.2.1 2 (.int x3)) M.2.1 4 (.int x1)) M.2.1 5 (.int x4)) ((cQ (cP 4 (cP 4 (cP 4 (cP 4 w21 M.2.1 1 (.int x2)) M.2.1 2 (.int x3)) M.2.1 4 (.int x1)) M.2.1 5 (.int x4)) a0 1).getD 0) (some M.2.1)) (fun w29 => (cOk 0 w29 a0) ∧ ((cOq 3 w29 (cQ w29 a0 1)) ∧ ((S_Ns_add cs lim n w29 ((cQ w29 a0 1).getD 0) (some M.2.1)) ∧ (mbind (F_Ns_add cs n w29 ((cQ w29 a0 1).getD 0) (some M.2.1)) (fun w33 => True)))))))))))))))) else (True))))) else (True))))) else (True)))) else (True)))) else (True))))
set_option maxRecDepth 100000 in
set_option maxHeartbeats 4000000 in
theorem cc_N_handle (l : Launch) (hf : l.flags = pinnedFlags ++ [noTraceFlag]) (D : va_G) (cs : Nat → ClassId) (B : Nat) (dE : Nat × Nat) (lim : Nat × Nat) (n : Nat) (M : gMem) (a0 : Nat) (x1 : Int32) (x2 : Int32) (x3 : Int32) (x4 : Int32) (hS : S_N_handle cs lim n M a0 x1 x2 x3 x4) : cMet l y_N_handle (Cond.code y_N_handle c_N_handle 6 (some .int)) (7) (121) D cs B dE (gA B) lim [.ref a0, .int x1, .int x2, .int x3, .int x4] M (fun x M' => x = (if (F_N_handle cs n M a0 x1 x2 x3 x4).1 = 0 then .inl (some (.int ((F_N_handle cs n M a0 x1 x2 x3 x4).2.1))) else .inr (exn (F_N_handle cs n M a0 x1 x2 x3 x4).1)) ∧ M' = (F_N_handle cs n M a0 x1 x2 x3 x4).2.2) := by
  refine cMet.ofW (by decide) (Nat.le_of_ble_eq_true rfl) (lv0 := [(0, .ref a0), (1, .int x1), (2, .int x2), (3, .int x3), (4, .int x4)]) rfl ?_
  intro p e s m args below meth c C hE hR0 hle hr hlocks hex hn
  generalize hF : F_N_handle cs n M a0 x1 x2 x3 x4 = Fv
  unfold F_N_handle at hF
  unfold S_N_handle at hS
  refine g_aload_n C d_N_handle_0 rfl ?_
  refine g_iload_n C d_N_handle_1 rfl ?_
  obtain ⟨ho1, hS⟩ := hS
  obtain ⟨hs2, hS⟩ := hS
  refine c_call (av := [.ref a0, .int x1]) (rest := []) C hE (fun _ h => h.elim) ⟨rfl, rfl⟩ hle (cc_N_needNode l hf D cs B dE lim _ a0 x1 hs2) (fun _ h => h.elim) kd_N_needNode ki_N (Nat.le_of_ble_eq_true rfl) (Nat.le_of_ble_eq_true rfl) d_N_handle_2 (Nat.le_of_ble_eq_true rfl) (c_fV (n := 1) (ci := 0) C hE.1 rfl km_N_128 kv_N_needNode kl_N_needNode kd_N_needNode ⟨by decide, by decide, by decide⟩ rfl rfl d_N_handle_2 ho1) (fun v1 M1 hv hle => ?_) (fun E1 M1 hv hle => ?_)
  · rw [mbind_eq] at hF hS
    obtain ⟨hx, hM1⟩ := hv
    have hM2 := hM1.symm
    subst hM2
    generalize hq_w3 : F_N_needNode cs M a0 x1 = w3 at hF hS hx hle ⊢
    by_cases h04 : w3 = 0
    · rw [if_pos h04] at hF hS hx hle
      rw [if_pos h04]
      cases hx
      refine GW.eqs (st' := []) rfl ?_
      refine g_iload_n C d_N_handle_5 rfl ?_
      obtain ⟨hs5, hS⟩ := hS
      refine c_call (av := [.int x2]) (rest := []) C hE (fun _ h => h.elim) ⟨rfl, rfl⟩ hle (cc_N_needRow l hf D cs B dE lim _ x2 hs5) (fun _ h => h.elim) kd_N_needRow ki_N (Nat.le_of_ble_eq_true rfl) (Nat.le_of_ble_eq_true rfl) d_N_handle_6 (Nat.le_of_ble_eq_true rfl) (c_fS (n := 1) C km_N_79 ks_N_needRow ki_N kd_N_needRow ⟨by decide, by decide, by decide⟩ rfl rfl d_N_handle_6) (fun v1 M1 hv hle => ?_) (fun E1 M1 hv hle => ?_)
      · rw [mbind_eq] at hF hS
        obtain ⟨hx, hM1⟩ := hv
        have hM2 := hM1.symm
        subst hM2
        generalize hq_w6 : F_N_needRow cs M x2 = w6 at hF hS hx hle ⊢
        by_cases h07 : w6 = 0
        · rw [if_pos h07] at hF hS hx hle
          rw [if_pos h07]
          cases hx
          refine GW.eqs (st' := []) rfl ?_
          refine g_iload_n C d_N_handle_9 rfl ?_
          obtain ⟨hs8, hS⟩ := hS
          refine c_call (av := [.int x3]) (rest := []) C hE (fun _ h => h.elim) ⟨rfl, rfl⟩ hle (cc_N_needName l hf D cs B dE lim _ x3 hs8) (fun _ h => h.elim) kd_N_needName ki_N (Nat.le_of_ble_eq_true rfl) (Nat.le_of_ble_eq_true rfl) d_N_handle_10 (Nat.le_of_ble_eq_true rfl) (c_fS (n := 1) C km_N_110 ks_N_needName ki_N kd_N_needName ⟨by decide, by decide, by decide⟩ rfl rfl d_N_handle_10) (fun v1 M1 hv hle => ?_) (fun E1 M1 hv hle => ?_)
          · rw [mbind_eq] at hF hS
            obtain ⟨hx, hM1⟩ := hv
            have hM2 := hM1.symm
            subst hM2
            generalize hq_w9 : F_N_needName cs M x3 = w9 at hF hS hx hle ⊢
            by_cases h010 : w9 = 0
            · rw [if_pos h010] at hF hS hx hle
              rw [if_pos h010]
              cases hx
              refine GW.eqs (st' := []) rfl ?_
              refine g_aload_n C d_N_handle_13 rfl ?_
              refine g_iload C d_N_handle_14 rfl ?_
              obtain ⟨ho11, hS⟩ := hS
              obtain ⟨hs12, hS⟩ := hS
              refine c_call (av := [.ref a0, .int x4]) (rest := []) C hE (fun _ h => h.elim) ⟨rfl, rfl⟩ hle (cc_N_needNode l hf D cs B dE lim _ a0 x4 hs12) (fun _ h => h.elim) kd_N_needNode ki_N (Nat.le_of_ble_eq_true rfl) (Nat.le_of_ble_eq_true rfl) d_N_handle_16 (Nat.le_of_ble_eq_true rfl) (c_fV (n := 1) (ci := 0) C hE.1 rfl km_N_128 kv_N_needNode kl_N_needNode kd_N_needNode ⟨by decide, by decide, by decide⟩ rfl rfl d_N_handle_16 ho11) (fun v1 M1 hv hle => ?_) (fun E1 M1 hv hle => ?_)
              · rw [mbind_eq] at hF hS
                obtain ⟨hx, hM1⟩ := hv
                have hM2 := hM1.symm
                subst hM2
                generalize hq_w13 : F_N_needNode cs M a0 x4 = w13 at hF hS hx hle ⊢
                by_cases h014 : w13 = 0
                · rw [if_pos h014] at hF hS hx hle
                  rw [if_pos h014]
                  cases hx
                  refine GW.eqs (st' := []) rfl ?_
                  refine g_aload_n C d_N_handle_19 rfl ?_
                  obtain ⟨ho15, hS⟩ := hS
                  obtain ⟨hs16, hS⟩ := hS
                  refine c_call (av := [.ref a0]) (rest := []) C hE (fun _ h => h.elim) ⟨rfl, rfl⟩ hle (cc_N_needRoom l hf D cs B dE lim _ a0  hs16) (fun _ h => h.elim) kd_N_needRoom ki_N (Nat.le_of_ble_eq_true rfl) (Nat.le_of_ble_eq_true rfl) d_N_handle_20 (Nat.le_of_ble_eq_true rfl) (c_fV (n := 0) (ci := 0) C hE.1 rfl km_N_113 kv_N_needRoom kl_N_needRoom kd_N_needRoom ⟨by decide, by decide, by decide⟩ rfl rfl d_N_handle_20 ho15) (fun v1 M1 hv hle => ?_) (fun E1 M1 hv hle => ?_)
                  · rw [mbind_eq] at hF hS
                    obtain ⟨hx, hM1⟩ := hv
                    have hM2 := hM1.symm
                    subst hM2
                    generalize hq_w17 : F_N_needRoom cs M a0  = w17 at hF hS hx hle ⊢
                    by_cases h018 : w17 = 0
                    · rw [if_pos h018] at hF hS hx hle
                      rw [if_pos h018]
                      cases hx
                      refine GW.eqs (st' := []) rfl ?_
                      refine GW.more (A' := gA B) (fun _ h => h.elim) ?_
                      obtain ⟨hl19, hS⟩ := hS
                      refine c_new (M0 := M) (M := M) (ci := 4) (N := 11) (fs := [.int 0, .int 0, .int 0, .int 0, .int 0, .int 0, .int 0, .int 0, .int 0, .int 0, .int 0]) C hE.1 ⟨rfl, rfl⟩ hle i_No rfl t_No t_No_ok kc_N_116 kn_No ki_No (by decide) d_N_handle_23 hl19 (fun hle => ?_)
                      refine g_dup C d_N_handle_26 rfl ?_
                      refine g_bipush (v := 8) C d_N_handle_27 (by decide) ?_
                      obtain ⟨hs20, hS⟩ := hS
                      refine c_call (av := [.ref M.2.1, .int 8]) (rest := [.ref M.2.1]) C hE (fun _ h => h) ⟨rfl, rfl⟩ hle (cc_No_init l hf D cs B dE lim _ M.2.1 8 hs20) (fun _ h => h) kd_No_init ki_No (Nat.le_of_ble_eq_true rfl) (Nat.le_of_ble_eq_true rfl) d_N_handle_29 (Nat.le_of_ble_eq_true rfl) (c_fI (n := 1) C rfl km_N_118 kv_No_init kd_No_init ⟨by decide, by decide, by decide⟩ rfl rfl d_N_handle_29) (fun v1 M1 hv hle => ?_) (fun E1 M1 hv hle => ?_)
                      · rw [mbind_eq] at hF hS
                        obtain ⟨hx, hM1⟩ := hv
                        have hM2 := hM1.symm
                        subst hM2
                        generalize hq_w21 : F_No_init cs (gnw M (1, .inr (4, [.int 0, .int 0, .int 0, .int 0, .int 0, .int 0, .int 0, .int 0, .int 0, .int 0, .int 0])) 11) M.2.1 8 = w21 at hF hS hx hle ⊢
                        cases hx
                        refine GW.eqs (st' := [.ref M.2.1]) rfl ?_
                        refine g_astore (lv' := [(5, .ref M.2.1), (0, .ref a0), (1, .int x1), (2, .int x2), (3, .int x3), (4, .int x4)]) C d_N_handle_32 (by decide) rfl ?_
                        refine g_aload C d_N_handle_34 rfl ?_
                        refine g_iload_n C d_N_handle_36 rfl ?_
                        obtain ⟨ho22, hS⟩ := hS
                        refine k_put (M0 := M) (M := w21) C hE.1 (ci := 4) i_No rfl 1 (by decide) (by decide) kf_N_120 t_No t_No_ok n_No rfl (nf_i _) d_N_handle_37 ho22 ?_
                        replace hle := cLe.cP (ci := 4) (a := M.2.1) (k := 1) (v := .int x2) hle
                        refine g_aload C d_N_handle_40 rfl ?_
                        refine g_iload_n C d_N_handle_42 rfl ?_
                        obtain ⟨ho23, hS⟩ := hS
                        refine k_put (M0 := M) (M := cP 4 w21 M.2.1 1 (.int x2)) C hE.1 (ci := 4) i_No rfl 2 (by decide) (by decide) kf_N_131 t_No t_No_ok n_No rfl (nf_i _) d_N_handle_43 ho23 ?_
                        replace hle := cLe.cP (ci := 4) (a := M.2.1) (k := 2) (v := .int x3) hle
                        refine g_aload C d_N_handle_46 rfl ?_
                        refine g_iload_n C d_N_handle_48 rfl ?_
                        obtain ⟨ho24, hS⟩ := hS
                        refine k_put (M0 := M) (M := cP 4 (cP 4 w21 M.2.1 1 (.int x2)) M.2.1 2 (.int x3)) C hE.1 (ci := 4) i_No rfl 4 (by decide) (by decide) kf_N_134 t_No t_No_ok n_No rfl (nf_i _) d_N_handle_49 ho24 ?_
                        replace hle := cLe.cP (ci := 4) (a := M.2.1) (k := 4) (v := .int x1) hle
                        refine g_aload C d_N_handle_52 rfl ?_
                        refine g_iload C d_N_handle_54 rfl ?_
                        obtain ⟨ho25, hS⟩ := hS
                        refine k_put (M0 := M) (M := cP 4 (cP 4 (cP 4 w21 M.2.1 1 (.int x2)) M.2.1 2 (.int x3)) M.2.1 4 (.int x1)) C hE.1 (ci := 4) i_No rfl 5 (by decide) (by decide) kf_N_137 t_No t_No_ok n_No rfl (nf_i _) d_N_handle_56 ho25 ?_
                        replace hle := cLe.cP (ci := 4) (a := M.2.1) (k := 5) (v := .int x4) hle
                        refine g_aload_n C d_N_handle_59 rfl ?_
                        obtain ⟨ho26, hS⟩ := hS
                        refine c_getq C hE.1 (ci := 0) i_N rfl 1 (by decide) (by decide) (by decide) kf_N_19 d_N_handle_60 ho26 ?_
                        refine g_aload C d_N_handle_63 rfl ?_
                        obtain ⟨ho27, hS⟩ := hS
                        refine GW.known2 (a := (cQ (cP 4 (cP 4 (cP 4 (cP 4 w21 M.2.1 1 (.int x2)) M.2.1 2 (.int x3)) M.2.1 4 (.int x1)) M.2.1 5 (.int x4)) a0 1).getD 0) (cOq.at ho27).1 ?_
                        obtain ⟨hs28, hS⟩ := hS
                        refine c_call (av := [.ref ((cQ (cP 4 (cP 4 (cP 4 (cP 4 w21 M.2.1 1 (.int x2)) M.2.1 2 (.int x3)) M.2.1 4 (.int x1)) M.2.1 5 (.int x4)) a0 1).getD 0), .ref M.2.1]) (rest := []) C hE (fun _ h => h) ⟨rfl, rfl⟩ hle (cc_Ns_giveReadyClauses l hf D cs B dE lim _ ((cQ (cP 4 (cP 4 (cP 4 (cP 4 w21 M.2.1 1 (.int x2)) M.2.1 2 (.int x3)) M.2.1 4 (.int x1)) M.2.1 5 (.int x4)) a0 1).getD 0) (some M.2.1) hs28) (fun _ h => h) kd_Ns_giveReadyClauses ki_Ns (Nat.le_of_ble_eq_true rfl) (Nat.le_of_ble_eq_true rfl) d_N_handle_65 (Nat.le_of_ble_eq_true rfl) (c_fV (n := 1) (ci := 3) C hE.1 rfl km_N_167 kv_Ns_giveReadyClauses kl_Ns_giveReadyClauses kd_Ns_giveReadyClauses ⟨by decide, by decide, by decide⟩ rfl rfl d_N_handle_65 (cOq.at ho27).2) (fun v1 M1 hv hle => ?_) (fun E1 M1 hv hle => ?_)
                        · rw [mbind_eq] at hF hS
                          obtain ⟨hx, hM1⟩ := hv
                          have hM2 := hM1.symm
                          subst hM2
                          generalize hq_w29 : F_Ns_giveReadyClauses cs (cP 4 (cP 4 (cP 4 (cP 4 w21 M.2.1 1 (.int x2)) M.2.1 2 (.int x3)) M.2.1 4 (.int x1)) M.2.1 5 (.int x4)) ((cQ (cP 4 (cP 4 (cP 4 (cP 4 w21 M.2.1 1 (.int x2)) M.2.1 2 (.int x3)) M.2.1 4 (.int x1)) M.2.1 5 (.int x4)) a0 1).getD 0) (some M.2.1) = w29 at hF hS hx hle ⊢
                          cases hx
                          refine GW.eqs (st' := []) rfl ?_
                          refine g_aload_n C d_N_handle_68 rfl ?_
                          obtain ⟨ho30, hS⟩ := hS
                          refine c_getq C hE.1 (ci := 0) i_N rfl 1 (by decide) (by decide) (by decide) kf_N_19 d_N_handle_69 ho30 ?_
                          refine g_aload C d_N_handle_72 rfl ?_
                          obtain ⟨ho31, hS⟩ := hS
                          refine GW.known2 (a := (cQ w29 a0 1).getD 0) (cOq.at ho31).1 ?_
                          obtain ⟨hs32, hS⟩ := hS
                          refine c_call (av := [.ref ((cQ w29 a0 1).getD 0), .ref M.2.1]) (rest := []) C hE (fun _ h => h) ⟨rfl, rfl⟩ hle (cc_Ns_add l hf D cs B dE lim n _ ((cQ w29 a0 1).getD 0) (some M.2.1) hs32) (fun _ h => h) kd_Ns_add ki_Ns (Nat.le_of_ble_eq_true rfl) (Nat.le_of_ble_eq_true rfl) d_N_handle_74 (Nat.le_of_ble_eq_true rfl) (c_fV (n := 1) (ci := 3) C hE.1 rfl km_N_124 kv_Ns_add kl_Ns_add kd_Ns_add ⟨by decide, by decide, by decide⟩ rfl rfl d_N_handle_74 (cOq.at ho31).2) (fun v1 M1 hv hle => ?_) (fun E1 M1 hv hle => ?_)
                          · rw [mbind_eq] at hF hS
                            obtain ⟨hx, hM1⟩ := hv
                            have hM2 := hM1.symm
                            subst hM2
                            generalize hq_w33 : F_Ns_add cs n w29 ((cQ w29 a0 1).getD 0) (some M.2.1) = w33 at hF hS hx hle ⊢
                            cases hx
                            refine GW.eqs (st' := [.int w33.1]) rfl ?_
                            exact c_iret (M := w33.2) C hr hlocks hle d_N_handle_77 (by rw [← hF]; exact ⟨(if_pos rfl).symm, rfl⟩)
                          · cases hv.1
                        · cases hv.1
                      · cases hv.1
                    · rw [if_neg h018] at hx
                      cases hx
                  · rw [mbind_eq] at hF
                    obtain ⟨hx, hM1⟩ := hv
                    have hM2 := hM1.symm
                    subst hM2
                    generalize F_N_needRoom cs M a0  = w17 at hF hx hle ⊢
                    by_cases h018 : w17 = 0
                    · rw [if_pos h018] at hx
                      cases hx
                    · rw [if_neg h018] at hF hx hle
                      rw [if_neg h018]
                      cases hx
                      exact c_tleave (fun _ h => h.elim) hex hlocks hle (by rw [← hF]; exact ⟨by rw [if_neg h018], rfl⟩)
                · rw [if_neg h014] at hx
                  cases hx
              · rw [mbind_eq] at hF
                obtain ⟨hx, hM1⟩ := hv
                have hM2 := hM1.symm
                subst hM2
                generalize F_N_needNode cs M a0 x4 = w13 at hF hx hle ⊢
                by_cases h014 : w13 = 0
                · rw [if_pos h014] at hx
                  cases hx
                · rw [if_neg h014] at hF hx hle
                  rw [if_neg h014]
                  cases hx
                  exact c_tleave (fun _ h => h.elim) hex hlocks hle (by rw [← hF]; exact ⟨by rw [if_neg h014], rfl⟩)
            · rw [if_neg h010] at hx
              cases hx
          · rw [mbind_eq] at hF
            obtain ⟨hx, hM1⟩ := hv
            have hM2 := hM1.symm
            subst hM2
            generalize F_N_needName cs M x3 = w9 at hF hx hle ⊢
            by_cases h010 : w9 = 0
            · rw [if_pos h010] at hx
              cases hx
            · rw [if_neg h010] at hF hx hle
              rw [if_neg h010]
              cases hx
              exact c_tleave (fun _ h => h.elim) hex hlocks hle (by rw [← hF]; exact ⟨by rw [if_neg h010], rfl⟩)
        · rw [if_neg h07] at hx
          cases hx
      · rw [mbind_eq] at hF
        obtain ⟨hx, hM1⟩ := hv
        have hM2 := hM1.symm
        subst hM2
        generalize F_N_needRow cs M x2 = w6 at hF hx hle ⊢
        by_cases h07 : w6 = 0
        · rw [if_pos h07] at hx
          cases hx
        · rw [if_neg h07] at hF hx hle
          rw [if_neg h07]
          cases hx
          exact c_tleave (fun _ h => h.elim) hex hlocks hle (by rw [← hF]; exact ⟨by rw [if_neg h07], rfl⟩)
    · rw [if_neg h04] at hx
      cases hx
  · rw [mbind_eq] at hF
    obtain ⟨hx, hM1⟩ := hv
    have hM2 := hM1.symm
    subst hM2
    generalize F_N_needNode cs M a0 x1 = w3 at hF hx hle ⊢
    by_cases h04 : w3 = 0
    · rw [if_pos h04] at hx
      cases hx
    · rw [if_neg h04] at hF hx hle
      rw [if_neg h04]
      cases hx
      exact c_tleave (fun _ h => h.elim) hex hlocks hle (by rw [← hF]; exact ⟨by rw [if_neg h04], rfl⟩)
