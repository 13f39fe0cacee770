def F_N_two (cs : Nat → ClassId) (n : Nat) (M : gMem) (a0 : Nat) (x1 : Int32) (x2 : Int32) (x3 : Int32) : Nat × Int32 × gMem := if x1 < 0 then ((1, 0, gsk M)) else (if x1 ≤ 4 then (mbind (F_N_needNode cs M a0 x2) (fun w6 => if w6 = 0 then (mbind (F_N_needNode cs M a0 x3) (fun w10 => if w10 = 0 then (mbind (F_N_needRoom cs M a0 ) (fun w14 => if w14 = 0 then (mbind (F_No_init cs (gnw M (1, .inr (4, [.int 0, .int 0, .int 0, .int 0, .int 0, .int 0, .int 0, .int 0, .int 0, .int 0, .int 0])) 11) M.2.1 9) (fun w18 => mbind (F_Ns_add cs n (cP 4 (cP 4 (cP 4 w18 M.2.1 1 (.int x1)) M.2.1 4 (.int x2)) M.2.1 5 (.int x3)) ((cQ (cP 4 (cP 4 (cP 4 w18 M.2.1 1 (.int x1)) M.2.1 4 (.int x2)) M.2.1 5 (.int x3)) a0 1).getD 0) (some M.2.1)) (fun w25 => (0, w25.1, w25.2)))) else ((w14, 0, gsk M)))) else ((w10, 0, gsk M)))) else ((w6, 0, gsk M)))) else ((1, 0, gsk M)))
def S_N_two (cs : Nat → ClassId) (lim : Nat × Nat) (n : Nat) (M : gMem) (a0 : Nat) (x1 : Int32) (x2 : Int32) (x3 : Int32) : Prop := if x1 < 0 then ((M.2.1 + 1 ≤ lim.1 ∧ M.2.2 + 6 ≤ lim.2) ∧ (True)) else (if x1 ≤ 4 then ((cOk 0 M a0) ∧ ((S_N_needNode cs lim M a0 x2) ∧ (mbind (F_N_needNode cs M a0 x2) (fun w6 => if w6 = 0 then ((cOk 0 M a0) ∧ ((S_N_needNode cs lim M a0 x3) ∧ (mbind (F_N_needNode cs M a0 x3) (fun w10 => if w10 = 0 then ((cOk 0 M a0) ∧ ((S_N_needRoom cs lim M a0 ) ∧ (mbind (F_N_needRoom cs M a0 ) (fun w14 => if w14 = 0 then ((M.2.1 + 1 ≤ lim.1 ∧ M.2.2 + 11 ≤ lim.2) ∧ ((S_No_init cs lim (gnw M (1, .inr (4, [.int 0, .int 0, .int 0, .int 0, .int 0, .int 0, .int 0, .int 0, .int 0, .int 0, .int 0])) 11) M.2.1 9) ∧ (mbind (F_No_init cs (gnw M (1, .inr (4, [.int 0, .int 0, .int 0, .int 0, .int 0, .int 0, .int 0, .int 0, .int 0, .int 0, .int 0])) 11) M.2.1 9) (fun w18 => (cOk 4 w18 M.2.1) ∧ ((cOk 4 (cP 4 w18 M.2.1 1 (.int x1)) M.2.1) ∧ ((cOk 4 (cP 4 (cP 4 w18 M.2.1 1 (.int x1)) M.2.1 4 (.int x2)) M.2.1) ∧ ((cOk 0 (cP 4 (cP 4 (cP 4 w18 M.2.1 1 (.int x1)) M.2.1 4 (.int x2)) M.2.1 5 (.int x3)) a0) ∧ ((cOq 3 (cP 4 (cP 4 (cP 4 w18 M.2.1 1 (.int x1)) M.2.1 4 (.int x2)) M.2.1 5 (.int x3)) (cQ (cP 4 (cP 4 (cP 4 w18 M.2.1 1 (.int x1)) M.2.1 4 (.int x2)) M.2.1 5 (.int x3)) a0 1)) ∧ ((S_Ns_add cs lim n (cP 4 (cP 4 (cP 4 w18 M.2.1 1 (.int x1)) M.2.1 4 (.int x2)) M.2.1 5 (.int x3)) ((cQ (cP 4 (cP 4 (cP 4 w18 M.2.1 1 (.int x1)) M.2.1 4 (.int x2)) M.2.1 5 (.int x3)) a0 1).getD 0) (some M.2.1)) ∧ (mbind (F_Ns_add cs n (cP 4 (cP 4 (cP 4 w18 M.2.1 1 (.int x1)) M.2.1 4 (.int x2)) M.2.1 5 (.int x3)) ((cQ (cP 4 (cP 4 (cP 4 w18 M.2.1 1 (.int x1)) M.2.1 4 (.int x2)) M.2.1 5 (.int x3)) a0 1).getD 0) (some M.2.1)) (fun w25 => True))))))))))) else (True))))) else (True))))) else (True))))) else ((M.2.1 + 1 ≤ lim.1 ∧ M.2.2 + 6 ≤ lim.2) ∧ (True)))
set_option maxRecDepth 100000 in
set_option maxHeartbeats 4000000 in
theorem cc_N_two (l : Launch) (hf : l.flags = pinnedFlags ++ [noTraceFlag]) (D : va_G) (cs : Nat → ClassId) (B : Nat) (dE : Nat × Nat) (lim : Nat × Nat) (n : Nat) (M : gMem) (a0 : Nat) (x1 : Int32) (x2 : Int32) (x3 : Int32) (hS : S_N_two cs lim n M a0 x1 x2 x3) : cMet l y_N_two (Cond.code y_N_two c_N_two 5 (some .int)) (7) (121) D cs B dE (gA B) lim [.ref a0, .int x1, .int x2, .int x3] M (fun x M' => x = (if (F_N_two cs n M a0 x1 x2 x3).1 = 0 then .inl (some (.int ((F_N_two cs n M a0 x1 x2 x3).2.1))) else .inr (exn (F_N_two cs n M a0 x1 x2 x3).1)) ∧ M' = (F_N_two cs n M a0 x1 x2 x3).2.2) := by
  refine cMet.ofW (by decide) (Nat.le_of_ble_eq_true rfl) (lv0 := [(0, .ref a0), (1, .int x1), (2, .int x2), (3, .int x3)]) rfl ?_
  intro p e s m args below meth c C hE hR0 hle hr hlocks hex hn
  generalize hF : F_N_two cs n M a0 x1 x2 x3 = Fv
  unfold F_N_two at hF
  unfold S_N_two at hS
  refine g_iload_n C d_N_two_0 rfl ?_
  refine g_if_lt C 9 d_N_two_1 (by decide) (fun hc1 => ?_) (fun hc1 => ?_)
  · rw [if_pos hc1] at hF hS
    obtain ⟨hl2, hS⟩ := hS
    exact c_throw C hf hex hlocks hR0 hl2 (gAts_of C hE (by decide +kernel) (by decide +kernel) ats_Ix) (gE_st hE kq_N_171) kc_N_103 kn_Ix ki_Ix ⟨rfl, rfl⟩ d_N_two_9 d_N_two_12 d_N_two_13 d_N_two_15 d_N_two_18 (Nat.le_of_ble_eq_true rfl) (Nat.le_of_ble_eq_true rfl) (by rw [← hF]; exact ⟨rfl, rfl⟩)
  · rw [if_neg hc1] at hF hS
    refine g_iload_n C d_N_two_4 rfl ?_
    refine g_iconst (v := 4) C d_N_two_5 (by decide) ?_
    refine g_icmp_le C 19 d_N_two_6 (by decide) (fun hc3 => ?_) (fun hc3 => ?_)
    · rw [if_pos hc3] at hF hS
      refine g_aload_n C d_N_two_19 rfl ?_
      refine g_iload_n C d_N_two_20 rfl ?_
      obtain ⟨ho4, hS⟩ := hS
      obtain ⟨hs5, hS⟩ := hS
      refine c_call (av := [.ref a0, .int x2]) (rest := []) C hE (fun _ h => h.elim) ⟨rfl, rfl⟩ hle (cc_N_needNode l hf D cs B dE lim _ a0 x2 hs5) (fun _ h => h.elim) kd_N_needNode ki_N (Nat.le_of_ble_eq_true rfl) (Nat.le_of_ble_eq_true rfl) d_N_two_21 (Nat.le_of_ble_eq_true rfl) (c_fV (n := 1) (ci := 0) C hE.1 rfl km_N_128 kv_N_needNode kl_N_needNode kd_N_needNode ⟨by decide, by decide, by decide⟩ rfl rfl d_N_two_21 ho4) (fun v1 M1 hv hle => ?_) (fun E1 M1 hv hle => ?_)
      · rw [mbind_eq] at hF hS
        obtain ⟨hx, hM1⟩ := hv
        have hM2 := hM1.symm
        subst hM2
        generalize hq_w6 : F_N_needNode cs M a0 x2 = w6 at hF hS hx hle ⊢
        by_cases h07 : w6 = 0
        · rw [if_pos h07] at hF hS hx hle
          rw [if_pos h07]
          cases hx
          refine GW.eqs (st' := []) rfl ?_
          refine g_aload_n C d_N_two_24 rfl ?_
          refine g_iload_n C d_N_two_25 rfl ?_
          obtain ⟨ho8, hS⟩ := hS
          obtain ⟨hs9, hS⟩ := hS
          refine c_call (av := [.ref a0, .int x3]) (rest := []) C hE (fun _ h => h.elim) ⟨rfl, rfl⟩ hle (cc_N_needNode l hf D cs B dE lim _ a0 x3 hs9) (fun _ h => h.elim) kd_N_needNode ki_N (Nat.le_of_ble_eq_true rfl) (Nat.le_of_ble_eq_true rfl) d_N_two_26 (Nat.le_of_ble_eq_true rfl) (c_fV (n := 1) (ci := 0) C hE.1 rfl km_N_128 kv_N_needNode kl_N_needNode kd_N_needNode ⟨by decide, by decide, by decide⟩ rfl rfl d_N_two_26 ho8) (fun v1 M1 hv hle => ?_) (fun E1 M1 hv hle => ?_)
          · rw [mbind_eq] at hF hS
            obtain ⟨hx, hM1⟩ := hv
            have hM2 := hM1.symm
            subst hM2
            generalize hq_w10 : F_N_needNode cs M a0 x3 = w10 at hF hS hx hle ⊢
            by_cases h011 : w10 = 0
            · rw [if_pos h011] at hF hS hx hle
              rw [if_pos h011]
              cases hx
              refine GW.eqs (st' := []) rfl ?_
              refine g_aload_n C d_N_two_29 rfl ?_
              obtain ⟨ho12, hS⟩ := hS
              obtain ⟨hs13, hS⟩ := hS
              refine c_call (av := [.ref a0]) (rest := []) C hE (fun _ h => h.elim) ⟨rfl, rfl⟩ hle (cc_N_needRoom l hf D cs B dE lim _ a0  hs13) (fun _ h => h.elim) kd_N_needRoom ki_N (Nat.le_of_ble_eq_true rfl) (Nat.le_of_ble_eq_true rfl) d_N_two_30 (Nat.le_of_ble_eq_true rfl) (c_fV (n := 0) (ci := 0) C hE.1 rfl km_N_113 kv_N_needRoom kl_N_needRoom kd_N_needRoom ⟨by decide, by decide, by decide⟩ rfl rfl d_N_two_30 ho12) (fun v1 M1 hv hle => ?_) (fun E1 M1 hv hle => ?_)
              · rw [mbind_eq] at hF hS
                obtain ⟨hx, hM1⟩ := hv
                have hM2 := hM1.symm
                subst hM2
                generalize hq_w14 : F_N_needRoom cs M a0  = w14 at hF hS hx hle ⊢
                by_cases h015 : w14 = 0
                · rw [if_pos h015] at hF hS hx hle
                  rw [if_pos h015]
                  cases hx
                  refine GW.eqs (st' := []) rfl ?_
                  refine GW.more (A' := gA B) (fun _ h => h.elim) ?_
                  obtain ⟨hl16, hS⟩ := hS
                  refine c_new (M0 := M) (M := M) (ci := 4) (N := 11) (fs := [.int 0, .int 0, .int 0, .int 0, .int 0, .int 0, .int 0, .int 0, .int 0, .int 0, .int 0]) C hE.1 ⟨rfl, rfl⟩ hle i_No rfl t_No t_No_ok kc_N_116 kn_No ki_No (by decide) d_N_two_33 hl16 (fun hle => ?_)
                  refine g_dup C d_N_two_36 rfl ?_
                  refine g_bipush (v := 9) C d_N_two_37 (by decide) ?_
                  obtain ⟨hs17, hS⟩ := hS
                  refine c_call (av := [.ref M.2.1, .int 9]) (rest := [.ref M.2.1]) C hE (fun _ h => h) ⟨rfl, rfl⟩ hle (cc_No_init l hf D cs B dE lim _ M.2.1 9 hs17) (fun _ h => h) kd_No_init ki_No (Nat.le_of_ble_eq_true rfl) (Nat.le_of_ble_eq_true rfl) d_N_two_39 (Nat.le_of_ble_eq_true rfl) (c_fI (n := 1) C rfl km_N_118 kv_No_init kd_No_init ⟨by decide, by decide, by decide⟩ rfl rfl d_N_two_39) (fun v1 M1 hv hle => ?_) (fun E1 M1 hv hle => ?_)
                  · rw [mbind_eq] at hF hS
                    obtain ⟨hx, hM1⟩ := hv
                    have hM2 := hM1.symm
                    subst hM2
                    generalize hq_w18 : F_No_init cs (gnw M (1, .inr (4, [.int 0, .int 0, .int 0, .int 0, .int 0, .int 0, .int 0, .int 0, .int 0, .int 0, .int 0])) 11) M.2.1 9 = w18 at hF hS hx hle ⊢
                    cases hx
                    refine GW.eqs (st' := [.ref M.2.1]) rfl ?_
                    refine g_astore (lv' := [(4, .ref M.2.1), (0, .ref a0), (1, .int x1), (2, .int x2), (3, .int x3)]) C d_N_two_42 (by decide) rfl ?_
                    refine g_aload C d_N_two_44 rfl ?_
                    refine g_iload_n C d_N_two_46 rfl ?_
                    obtain ⟨ho19, hS⟩ := hS
                    refine k_put (M0 := M) (M := w18) C hE.1 (ci := 4) i_No rfl 1 (by decide) (by decide) kf_N_120 t_No t_No_ok n_No rfl (nf_i _) d_N_two_47 ho19 ?_
                    replace hle := cLe.cP (ci := 4) (a := M.2.1) (k := 1) (v := .int x1) hle
                    refine g_aload C d_N_two_50 rfl ?_
                    refine g_iload_n C d_N_two_52 rfl ?_
                    obtain ⟨ho20, hS⟩ := hS
                    refine k_put (M0 := M) (M := cP 4 w18 M.2.1 1 (.int x1)) C hE.1 (ci := 4) i_No rfl 4 (by decide) (by decide) kf_N_134 t_No t_No_ok n_No rfl (nf_i _) d_N_two_53 ho20 ?_
                    replace hle := cLe.cP (ci := 4) (a := M.2.1) (k := 4) (v := .int x2) hle
                    refine g_aload C d_N_two_56 rfl ?_
                    refine g_iload_n C d_N_two_58 rfl ?_
                    obtain ⟨ho21, hS⟩ := hS
                    refine k_put (M0 := M) (M := cP 4 (cP 4 w18 M.2.1 1 (.int x1)) M.2.1 4 (.int x2)) C hE.1 (ci := 4) i_No rfl 5 (by decide) (by decide) kf_N_137 t_No t_No_ok n_No rfl (nf_i _) d_N_two_59 ho21 ?_
                    replace hle := cLe.cP (ci := 4) (a := M.2.1) (k := 5) (v := .int x3) hle
                    refine g_aload_n C d_N_two_62 rfl ?_
                    obtain ⟨ho22, hS⟩ := hS
                    refine c_getq C hE.1 (ci := 0) i_N rfl 1 (by decide) (by decide) (by decide) kf_N_19 d_N_two_63 ho22 ?_
                    refine g_aload C d_N_two_66 rfl ?_
                    obtain ⟨ho23, hS⟩ := hS
                    refine GW.known2 (a := (cQ (cP 4 (cP 4 (cP 4 w18 M.2.1 1 (.int x1)) M.2.1 4 (.int x2)) M.2.1 5 (.int x3)) a0 1).getD 0) (cOq.at ho23).1 ?_
                    obtain ⟨hs24, hS⟩ := hS
                    refine c_call (av := [.ref ((cQ (cP 4 (cP 4 (cP 4 w18 M.2.1 1 (.int x1)) M.2.1 4 (.int x2)) M.2.1 5 (.int x3)) a0 1).getD 0), .ref M.2.1]) (rest := []) C hE (fun _ h => h) ⟨rfl, rfl⟩ hle (cc_Ns_add l hf D cs B dE lim n _ ((cQ (cP 4 (cP 4 (cP 4 w18 M.2.1 1 (.int x1)) M.2.1 4 (.int x2)) M.2.1 5 (.int x3)) a0 1).getD 0) (some M.2.1) hs24) (fun _ h => h) kd_Ns_add ki_Ns (Nat.le_of_ble_eq_true rfl) (Nat.le_of_ble_eq_true rfl) d_N_two_68 (Nat.le_of_ble_eq_true rfl) (c_fV (n := 1) (ci := 3) C hE.1 rfl km_N_124 kv_Ns_add kl_Ns_add kd_Ns_add ⟨by decide, by decide, by decide⟩ rfl rfl d_N_two_68 (cOq.at ho23).2) (fun v1 M1 hv hle => ?_) (fun E1 M1 hv hle => ?_)
                    · rw [mbind_eq] at hF hS
                      obtain ⟨hx, hM1⟩ := hv
                      have hM2 := hM1.symm
                      subst hM2
                      generalize hq_w25 : F_Ns_add cs n (cP 4 (cP 4 (cP 4 w18 M.2.1 1 (.int x1)) M.2.1 4 (.int x2)) M.2.1 5 (.int x3)) ((cQ (cP 4 (cP 4 (cP 4 w18 M.2.1 1 (.int x1)) M.2.1 4 (.int x2)) M.2.1 5 (.int x3)) a0 1).getD 0) (some M.2.1) = w25 at hF hS hx hle ⊢
                      cases hx
                      refine GW.eqs (st' := [.int w25.1]) rfl ?_
                      exact c_iret (M := w25.2) C hr hlocks hle d_N_two_71 (by rw [← hF]; exact ⟨(if_pos rfl).symm, rfl⟩)
                    · cases hv.1
                  · cases hv.1
                · rw [if_neg h015] at hx
                  cases hx
              · rw [mbind_eq] at hF
                obtain ⟨hx, hM1⟩ := hv
                have hM2 := hM1.symm
                subst hM2
                generalize F_N_needRoom cs M a0  = w14 at hF hx hle ⊢
                by_cases h015 : w14 = 0
                · rw [if_pos h015] at hx
                  cases hx
                · rw [if_neg h015] at hF hx hle
                  rw [if_neg h015]
                  cases hx
                  exact c_tleave (fun _ h => h.elim) hex hlocks hle (by rw [← hF]; exact ⟨by rw [if_neg h015], rfl⟩)
            · rw [if_neg h011] at hx
              cases hx
          · rw [mbind_eq] at hF
            obtain ⟨hx, hM1⟩ := hv
            have hM2 := hM1.symm
            subst hM2
            generalize F_N_needNode cs M a0 x3 = w10 at hF hx hle ⊢
            by_cases h011 : w10 = 0
            · rw [if_pos h011] at hx
              cases hx
            · rw [if_neg h011] at hF hx hle
              rw [if_neg h011]
              cases hx
              exact c_tleave (fun _ h => h.elim) hex hlocks hle (by rw [← hF]; exact ⟨by rw [if_neg h011], rfl⟩)
        · rw [if_neg h07] at hx
          cases hx
      · rw [mbind_eq] at hF
        obtain ⟨hx, hM1⟩ := hv
        have hM2 := hM1.symm
        subst hM2
        generalize F_N_needNode cs M a0 x2 = w6 at hF hx hle ⊢
        by_cases h07 : w6 = 0
        · rw [if_pos h07] at hx
          cases hx
        · rw [if_neg h07] at hF hx hle
          rw [if_neg h07]
          cases hx
          exact c_tleave (fun _ h => h.elim) hex hlocks hle (by rw [← hF]; exact ⟨by rw [if_neg h07], rfl⟩)
    · rw [if_neg hc3] at hF hS
      obtain ⟨hl26, hS⟩ := hS
      exact c_throw C hf hex hlocks hR0 hl26 (gAts_of C hE (by decide +kernel) (by decide +kernel) ats_Ix) (gE_st hE kq_N_171) kc_N_103 kn_Ix ki_Ix ⟨rfl, rfl⟩ d_N_two_9 d_N_two_12 d_N_two_13 d_N_two_15 d_N_two_18 (Nat.le_of_ble_eq_true rfl) (Nat.le_of_ble_eq_true rfl) (by rw [← hF]; exact ⟨rfl, rfl⟩)
def F_N_call (cs : Nat → ClassId) (n : Nat) (M : gMem) (a0 : Nat) (x1 : Int32) (x2 : Int32) : Nat × Int32 × gMem := mbind (F_N_needNode cs M a0 x1) (fun w3 => if w3 = 0 then (mbind (F_N_needNode cs M a0 x2) (fun w7 => if w7 = 0 then (mbind (F_N_needRoom cs M a0 ) (fun w11 => if w11 = 0 then (mbind (F_No_init cs (gnw M (1, .inr (4, [.int 0, .int 0, .int 0, .int 0, .int 0, .int 0, .int 0, .int 0, .int 0, .int 0, .int 0])) 11) M.2.1 10) (fun w15 => mbind (F_Ns_add cs n (cP 4 (cP 4 w15 M.2.1 4 (.int x1)) M.2.1 5 (.int x2)) ((cQ (cP 4 (cP 4 w15 M.2.1 4 (.int x1)) M.2.1 5 (.int x2)) a0 1).getD 0) (some M.2.1)) (fun w21 => (0, w21.1, w21.2)))) else ((w11, 0, gsk M)))) else ((w7, 0, gsk M)))) else ((w3, 0, gsk M)))
def S_N_call (cs : Nat → ClassId) (lim : Nat × Nat) (n : Nat) (M : gMem) (a0 : Nat) (x1 : Int32) (x2 : Int32) : Prop := (cOk 0 M a0) ∧ ((S_N_needNode cs lim M a0 x1) ∧ (mbind (F_N_needNode cs M a0 x1) (fun w3 => if w3 = 0 then ((cOk 0 M a0) ∧ ((S_N_needNode cs lim M a0 x2) ∧ (mbind (F_N_needNode cs M a0 x2) (fun w7 => if w7 = 0 then ((cOk 0 M a0) ∧ ((S_N_needRoom cs lim M a0 ) ∧ (mbind (F_N_needRoom cs M a0 ) (fun w11 => if w11 = 0 then ((M.2.1 + 1 ≤ lim.1 ∧ M.2.2 + 11 ≤ lim.2) ∧ ((S_No_init cs lim (gnw M (1, .inr (4, [.int 0, .int 0, .int 0, .int 0, .int 0, .int 0, .int 0, .int 0, .int 0, .int 0, .int 0])) 11) M.2.1 10) ∧ (mbind (F_No_init cs (gnw M (1, .inr (4, [.int 0, .int 0, .int 0, .int 0, .int 0, .int 0, .int 0, .int 0, .int 0, .int 0, .int 0])) 11) M.2.1 10) (fun w15 => (cOk 4 w15 M.2.1) ∧ ((cOk 4 (cP 4 w15 M.2.1 4 (.int x1)) M.2.1) ∧ ((cOk 0 (cP 4 (cP 4 w15 M.2.1 4 (.int x1)) M.2.1 5 (.int x2)) a0) ∧ ((cOq 3 (cP 4 (cP 4 w15 M.2.1 4 (.int x1)) M.2.1 5 (.int x2)) (cQ (cP 4 (cP 4 w15 M.2.1 4 (.int x1)) M.2.1 5 (.int x2)) a0 1)) ∧ ((S_Ns_add cs lim n (cP 4 (cP 4 w15 M.2.1 4 (.int x1)) M.2.1 5 (.int x2)) ((cQ (cP 4 (cP 4 w15 M.2.1 4 (.int x1)) M.2.1 5 (.int x2)) a0 1).getD 0) (some M.2.1)) ∧ (mbind (F_Ns_add cs n (cP 4 (cP 4 w15 M.2.1 4 (.int x1)) M.2.1 5 (.int x2)) ((cQ (cP 4 (cP 4 w15 M.2.1 4 (.int x1)) M.2.1 5 (.int x2)) a0 1).getD 0) (some M.2.1)) (fun w21 => True)))))))))) else (True))))) else (True))))) else (True))))
set_option maxRecDepth 100000 in
set_option maxHeartbeats 4000000 in
theorem cc_N_call (l : Launch) (hf : l.flags = pinnedFlags ++ [noTraceFlag]) (D : va_G) (cs : Nat → ClassId) (B : Nat) (dE : Nat × Nat) (lim : Nat × Nat) (n : Nat) (M : gMem) (a0 : Nat) (x1 : Int32) (x2 : Int32) (hS : S_N_call cs lim n M a0 x1 x2) : cMet l y_N_call (Cond.code y_N_call c_N_call 4 (some .int)) (7) (121) D cs B dE (gA B) lim [.ref a0, .int x1, .int x2] M (fun x M' => x = (if (F_N_call cs n M a0 x1 x2).1 = 0 then .inl (some (.int ((F_N_call cs n M a0 x1 x2).2.1))) else .inr (exn (F_N_call cs n M a0 x1 x2).1)) ∧ M' = (F_N_call cs n M a0 x1 x2).2.2) := by
  refine cMet.ofW (by decide) (Nat.le_of_ble_eq_true rfl) (lv0 := [(0, .ref a0), (1, .int x1), (2, .int x2)]) rfl ?_
  intro p e s m args below meth c C hE hR0 hle hr hlocks hex hn
  generalize hF : F_N_call cs n M a0 x1 x2 = Fv
  unfold F_N_call at hF
  unfold S_N_call at hS
  refine g_aload_n C d_N_call_0 rfl ?_
  refine g_iload_n C d_N_call_1 rfl ?_
  obtain ⟨ho1, hS⟩ := hS
  obtain ⟨hs2, hS⟩ := hS
  refine c_call (av := [.ref a0, .int x1]) (rest := []) C hE (fun _ h => h.elim) ⟨rfl, rfl⟩ hle (cc_N_needNode l hf D cs B dE lim _ a0 x1 hs2) (fun _ h => h.elim) kd_N_needNode ki_N (Nat.le_of_ble_eq_true rfl) (Nat.le_of_ble_eq_true rfl) d_N_call_2 (Nat.le_of_ble_eq_true rfl) (c_fV (n := 1) (ci := 0) C hE.1 rfl km_N_128 kv_N_needNode kl_N_needNode kd_N_needNode ⟨by decide, by decide, by decide⟩ rfl rfl d_N_call_2 ho1) (fun v1 M1 hv hle => ?_) (fun E1 M1 hv hle => ?_)
  · rw [mbind_eq] at hF hS
    obtain ⟨hx, hM1⟩ := hv
    have hM2 := hM1.symm
    subst hM2
    generalize hq_w3 : F_N_needNode cs M a0 x1 = w3 at hF hS hx hle ⊢
    by_cases h04 : w3 = 0
    · rw [if_pos h04] at hF hS hx hle
      rw [if_pos h04]
      cases hx
      refine GW.eqs (st' := []) rfl ?_
      refine g_aload_n C d_N_call_5 rfl ?_
      refine g_iload_n C d_N_call_6 rfl ?_
      obtain ⟨ho5, hS⟩ := hS
      obtain ⟨hs6, hS⟩ := hS
      refine c_call (av := [.ref a0, .int x2]) (rest := []) C hE (fun _ h => h.elim) ⟨rfl, rfl⟩ hle (cc_N_needNode l hf D cs B dE lim _ a0 x2 hs6) (fun _ h => h.elim) kd_N_needNode ki_N (Nat.le_of_ble_eq_true rfl) (Nat.le_of_ble_eq_true rfl) d_N_call_7 (Nat.le_of_ble_eq_true rfl) (c_fV (n := 1) (ci := 0) C hE.1 rfl km_N_128 kv_N_needNode kl_N_needNode kd_N_needNode ⟨by decide, by decide, by decide⟩ rfl rfl d_N_call_7 ho5) (fun v1 M1 hv hle => ?_) (fun E1 M1 hv hle => ?_)
      · rw [mbind_eq] at hF hS
        obtain ⟨hx, hM1⟩ := hv
        have hM2 := hM1.symm
        subst hM2
        generalize hq_w7 : F_N_needNode cs M a0 x2 = w7 at hF hS hx hle ⊢
        by_cases h08 : w7 = 0
        · rw [if_pos h08] at hF hS hx hle
          rw [if_pos h08]
          cases hx
          refine GW.eqs (st' := []) rfl ?_
          refine g_aload_n C d_N_call_10 rfl ?_
          obtain ⟨ho9, hS⟩ := hS
          obtain ⟨hs10, hS⟩ := hS
          refine c_call (av := [.ref a0]) (rest := []) C hE (fun _ h => h.elim) ⟨rfl, rfl⟩ hle (cc_N_needRoom l hf D cs B dE lim _ a0  hs10) (fun _ h => h.elim) kd_N_needRoom ki_N (Nat.le_of_ble_eq_true rfl) (Nat.le_of_ble_eq_true rfl) d_N_call_11 (Nat.le_of_ble_eq_true rfl) (c_fV (n := 0) (ci := 0) C hE.1 rfl km_N_113 kv_N_needRoom kl_N_needRoom kd_N_needRoom ⟨by decide, by decide, by decide⟩ rfl rfl d_N_call_11 ho9) (fun v1 M1 hv hle => ?_) (fun E1 M1 hv hle => ?_)
          · rw [mbind_eq] at hF hS
            obtain ⟨hx, hM1⟩ := hv
            have hM2 := hM1.symm
            subst hM2
            generalize hq_w11 : F_N_needRoom cs M a0  = w11 at hF hS hx hle ⊢
            by_cases h012 : w11 = 0
            · rw [if_pos h012] at hF hS hx hle
              rw [if_pos h012]
              cases hx
              refine GW.eqs (st' := []) rfl ?_
              refine GW.more (A' := gA B) (fun _ h => h.elim) ?_
              obtain ⟨hl13, hS⟩ := hS
              refine c_new (M0 := M) (M := M) (ci := 4) (N := 11) (fs := [.int 0, .int 0, .int 0, .int 0, .int 0, .int 0, .int 0, .int 0, .int 0, .int 0, .int 0]) C hE.1 ⟨rfl, rfl⟩ hle i_No rfl t_No t_No_ok kc_N_116 kn_No ki_No (by decide) d_N_call_14 hl13 (fun hle => ?_)
              refine g_dup C d_N_call_17 rfl ?_
              refine g_bipush (v := 10) C d_N_call_18 (by decide) ?_
              obtain ⟨hs14, hS⟩ := hS
              refine c_call (av := [.ref M.2.1, .int 10]) (rest := [.ref M.2.1]) C hE (fun _ h => h) ⟨rfl, rfl⟩ hle (cc_No_init l hf D cs B dE lim _ M.2.1 10 hs14) (fun _ h => h) kd_No_init ki_No (Nat.le_of_ble_eq_true rfl) (Nat.le_of_ble_eq_true rfl) d_N_call_20 (Nat.le_of_ble_eq_true rfl) (c_fI (n := 1) C rfl km_N_118 kv_No_init kd_No_init ⟨by decide, by decide, by decide⟩ rfl rfl d_N_call_20) (fun v1 M1 hv hle => ?_) (fun E1 M1 hv hle => ?_)
              · rw [mbind_eq] at hF hS
                obtain ⟨hx, hM1⟩ := hv
                have hM2 := hM1.symm
                subst hM2
                generalize hq_w15 : F_No_init cs (gnw M (1, .inr (4, [.int 0, .int 0, .int 0, .int 0, .int 0, .int 0, .int 0, .int 0, .int 0, .int 0, .int 0])) 11) M.2.1 10 = w15 at hF hS hx hle ⊢
                cases hx
                refine GW.eqs (st' := [.ref M.2.1]) rfl ?_
                refine g_astore_n (lv' := [(3, .ref M.2.1), (0, .ref a0), (1, .int x1), (2, .int x2)]) C d_N_call_23 (by decide) rfl ?_
                refine g_aload_n C d_N_call_24 rfl ?_
                refine g_iload_n C d_N_call_25 rfl ?_
                obtain ⟨ho16, hS⟩ := hS
                refine k_put (M0 := M) (M := w15) C hE.1 (ci := 4) i_No rfl 4 (by decide) (by decide) kf_N_134 t_No t_No_ok n_No rfl (nf_i _) d_N_call_26 ho16 ?_
                replace hle := cLe.cP (ci := 4) (a := M.2.1) (k := 4) (v := .int x1) hle
                refine g_aload_n C d_N_call_29 rfl ?_
                refine g_iload_n C d_N_call_30 rfl ?_
                obtain ⟨ho17, hS⟩ := hS
                refine k_put (M0 := M) (M := cP 4 w15 M.2.1 4 (.int x1)) C hE.1 (ci := 4) i_No rfl 5 (by decide) (by decide) kf_N_137 t_No t_No_ok n_No rfl (nf_i _) d_N_call_31 ho17 ?_
                replace hle := cLe.cP (ci := 4) (a := M.2.1) (k := 5) (v := .int x2) hle
                refine g_aload_n C d_N_call_34 rfl ?_
                obtain ⟨ho18, hS⟩ := hS
                refine c_getq C hE.1 (ci := 0) i_N rfl 1 (by decide) (by decide) (by decide) kf_N_19 d_N_call_35 ho18 ?_
                refine g_aload_n C d_N_call_38 rfl ?_
                obtain ⟨ho19, hS⟩ := hS
                refine GW.known2 (a := (cQ (cP 4 (cP 4 w15 M.2.1 4 (.int x1)) M.2.1 5 (.int x2)) a0 1).getD 0) (cOq.at ho19).1 ?_
                obtain ⟨hs20, hS⟩ := hS
                refine c_call (av := [.ref ((cQ (cP 4 (cP 4 w15 M.2.1 4 (.int x1)) M.2.1 5 (.int x2)) a0 1).getD 0), .ref M.2.1]) (rest := []) C hE (fun _ h => h) ⟨rfl, rfl⟩ hle (cc_Ns_add l hf D cs B dE lim n _ ((cQ (cP 4 (cP 4 w15 M.2.1 4 (.int x1)) M.2.1 5 (.int x2)) a0 1).getD 0) (some M.2.1) hs20) (fun _ h => h) kd_Ns_add ki_Ns (Nat.le_of_ble_eq_true rfl) (Nat.le_of_ble_eq_true rfl) d_N_call_39 (Nat.le_of_ble_eq_true rfl) (c_fV (n := 1) (ci := 3) C hE.1 rfl km_N_124 kv_Ns_add kl_Ns_add kd_Ns_add ⟨by decide, by decide, by decide⟩ rfl rfl d_N_call_39 (cOq.at ho19).2) (fun v1 M1 hv hle => ?_) (fun E1 M1 hv hle => ?_)
                · rw [mbind_eq] at hF hS
                  obtain ⟨hx, hM1⟩ := hv
                  have hM2 := hM1.symm
                  subst hM2
                  generalize hq_w21 : F_Ns_add cs n (cP 4 (cP 4 w15 M.2.1 4 (.int x1)) M.2.1 5 (.int x2)) ((cQ (cP 4 (cP 4 w15 M.2.1 4 (.int x1)) M.2.1 5 (.int x2)) a0 1).getD 0) (some M.2.1) = w21 at hF hS hx hle ⊢
                  cases hx
                  refine GW.eqs (st' := [.int w21.1]) rfl ?_
                  exact c_iret (M := w21.2) C hr hlocks hle d_N_call_42 (by rw [← hF]; exact ⟨(if_pos rfl).symm, rfl⟩)
                · cases hv.1
              · cases hv.1
            · rw [if_neg h012] at hx
              cases hx
          · rw [mbind_eq] at hF
            obtain ⟨hx, hM1⟩ := hv
            have hM2 := hM1.symm
            subst hM2
            generalize F_N_needRoom cs M a0  = w11 at hF hx hle ⊢
            by_cases h012 : w11 = 0
            · rw [if_pos h012] at hx
              cases hx
            · rw [if_neg h012] at hF hx hle
              rw [if_neg h012]
              cases hx
              exact c_tleave (fun _ h => h.elim) hex hlocks hle (by rw [← hF]; exact ⟨by rw [if_neg h012], rfl⟩)
        · rw [if_neg h08] at hx
          cases hx
      · rw [mbind_eq] at hF
        obtain ⟨hx, hM1⟩ := hv
        have hM2 := hM1.symm
        subst hM2
        generalize F_N_needNode cs M a0 x2 = w7 at hF hx hle ⊢
        by_cases h08 : w7 = 0
        · rw [if_pos h08] at hx
          cases hx
        · rw [if_neg h08] at hF hx hle
          rw [if_neg h08]
          cases hx
          exact c_tleave (fun _ h => h.elim) hex hlocks hle (by rw [← hF]; exact ⟨by rw [if_neg h08], rfl⟩)
    · rw [if_neg h04] at hx
      cases hx
  · rw [mbind_eq] at hF
    obtain ⟨hx, hM1⟩ := hv
    have hM2 := hM1.symm
    subst hM2
    generalize F_N_needNode cs M a0 x1 = w3 at hF hx hle ⊢
    by_cases h04 : w3 = 0
    · rw [if_pos h04] at hx
      cases hx
    · rw [if_neg h04] at hF hx hle
      rw [if_neg h04]
      cases hx
      exact c_tleave (fun _ h => h.elim) hex hlocks hle (by rw [← hF]; exact ⟨by rw [if_neg h04], rfl⟩)
def F_N_perform (cs : Nat → ClassId) (n : Nat) (M : gMem) (a0 : Nat) (x1 : Int32) (x2 : Int32) : Nat × Int32 × gMem := mbind (F_N_needEffect cs M x1) (fun w2 => if w2 = 0 then (mbind (F_N_needNode cs M a0 x2) (fun w6 => if w6 = 0 then (mbind (F_N_needRoom cs M a0 ) (fun w10 => if w10 = 0 then (mbind (F_No_init cs (gnw M (1, .inr (4, [.int 0, .int 0, .int 0, .int 0, .int 0, .int 0, .int 0, .int 0, .int 0, .int 0, .int 0])) 11) M.2.1 11) (fun w14 => mbind (F_Ns_add cs n (cP 4 (cP 4 w14 M.2.1 1 (.int x1)) M.2.1 4 (.int x2)) ((cQ (cP 4 (cP 4 w14 M.2.1 1 (.int x1)) M.2.1 4 (.int x2)) a0 1).getD 0) (some M.2.1)) (fun w20 => (0, w20.1, w20.2)))) else ((w10, 0, gsk M)))) else ((w6, 0, gsk M)))) else ((w2, 0, gsk M)))
def S_N_perform (cs : Nat → ClassId) (lim : Nat × Nat) (n : Nat) (M : gMem) (a0 : Nat) (x1 : Int32) (x2 : Int32) : Prop := (S_N_needEffect cs lim M x1) ∧ (mbind (F_N_needEffect cs M x1) (fun w2 => if w2 = 0 then ((cOk 0 M a0) ∧ ((S_N_needNode cs lim M a0 x2) ∧ (mbind (F_N_needNode cs M a0 x2) (fun w6 => if w6 = 0 then ((cOk 0 M a0) ∧ ((S_N_needRoom cs lim M a0 ) ∧ (mbind (F_N_needRoom cs M a0 ) (fun w10 => if w10 = 0 then ((M.2.1 + 1 ≤ lim.1 ∧ M.2.2 + 11 ≤ lim.2) ∧ ((S_No_init cs lim (gnw M (1, .inr (4, [.int 0, .int 0, .int 0, .int 0, .int 0, .int 0, .int 0, .int 0, .int 0, .int 0, .int 0])) 11) M.2.1 11) ∧ (mbind (F_No_init cs (gnw M (1, .inr (4, [.int 0, .int 0, .int 0, .int 0, .int 0, .int 0, .int 0, .int 0, .int 0, .int 0, .int 0])) 11) M.2.1 11) (fun w14 => (cOk 4 w14 M.2.1) ∧ ((cOk 4 (cP 4 w14 M.2.1 1 (.int x1)) M.2.1) ∧ ((cOk 0 (cP 4 (cP 4 w14 M.2.1 1 (.int x1)) M.2.1 4 (.int x2)) a0) ∧ ((cOq 3 (cP 4 (cP 4 w14 M.2.1 1 (.int x1)) M.2.1 4 (.int x2)) (cQ (cP 4 (cP 4 w14 M.2.1 1 (.int x1)) M.2.1 4 (.int x2)) a0 1)) ∧ ((S_Ns_add cs lim n (cP 4 (cP 4 w14 M.2.1 1 (.int x1)) M.2.1 4 (.int x2)) ((cQ (cP 4 (cP 4 w14 M.2.1 1 (.int x1)) M.2.1 4 (.int x2)) a0 1).getD 0) (some M.2.1)) ∧ (mbind (F_Ns_add cs n (cP 4 (cP 4 w14 M.2.1 1 (.int x1)) M.2.1 4 (.int x2)) ((cQ (cP 4 (cP 4 w14 M.2.1 1 (.int x1)) M.2.1 4 (.int x2)) a0 1).getD 0) (some M.2.1)) (fun w20 => True)))))))))) else (True))))) else (True))))) else (True)))
set_option maxRecDepth 100000 in
set_option maxHeartbeats 4000000 in
theorem cc_N_perform (l : Launch) (hf : l.flags = pinnedFlags ++ [noTraceFlag]) (D : va_G) (cs : Nat → ClassId) (B : Nat) (dE : Nat × Nat) (lim : Nat × Nat) (n : Nat) (M : gMem) (a0 : Nat) (x1 : Int32) (x2 : Int32) (hS : S_N_perform cs lim n M a0 x1 x2) : cMet l y_N_perform (Cond.code y_N_perform c_N_perform 4 (some .int)) (7) (121) D cs B dE (gA B) lim [.ref a0, .int x1, .int x2] M (fun x M' => x = (if (F_N_perform cs n M a0 x1 x2).1 = 0 then .inl (some (.int ((F_N_perform cs n M a0 x1 x2).2.1))) else .inr (exn (F_N_perform cs n M a0 x1 x2).1)) ∧ M' = (F_N_perform cs n M a0 x1 x2).2.2) := by
  refine cMet.ofW (by decide) (Nat.le_of_ble_eq_true rfl) (lv0 := [(0, .ref a0), (1, .int x1), (2, .int x2)]) rfl ?_
  intro p e s m args below meth c C hE hR0 hle hr hlocks hex hn
  generalize hF : F_N_perform cs n M a0 x1 x2 = Fv
  unfold F_N_perform at hF
  unfold S_N_perform at hS
  refine g_iload_n C d_N_perform_0 rfl ?_
  obtain ⟨hs1, hS⟩ := hS
  refine c_call (av := [.int x1]) (rest := []) C hE (fun _ h => h.elim) ⟨rfl, rfl⟩ hle (cc_N_needEffect l hf D cs B dE lim _ x1 hs1) (fun _ h => h.elim) kd_N_needEffect ki_N (Nat.le_of_ble_eq_true rfl) (Nat.le_of_ble_eq_true rfl) d_N_perform_1 (Nat.le_of_ble_eq_true rfl) (c_fS (n := 1) C km_N_100 ks_N_needEffect ki_N kd_N_needEffect ⟨by decide, by decide, by decide⟩ rfl rfl d_N_perform_1) (fun v1 M1 hv hle => ?_) (fun E1 M1 hv hle => ?_)
  · rw [mbind_eq] at hF hS
    obtain ⟨hx, hM1⟩ := hv
    have hM2 := hM1.symm
    subst hM2
    generalize hq_w2 : F_N_needEffect cs M x1 = w2 at hF hS hx hle ⊢
    by_cases h03 : w2 = 0
    · rw [if_pos h03] at hF hS hx hle
      rw [if_pos h03]
      cases hx
      refine GW.eqs (st' := []) rfl ?_
      refine g_aload_n C d_N_perform_4 rfl ?_
      refine g_iload_n C d_N_perform_5 rfl ?_
      obtain ⟨ho4, hS⟩ := hS
      obtain ⟨hs5, hS⟩ := hS
      refine c_call (av := [.ref a0, .int x2]) (rest := []) C hE (fun _ h => h.elim) ⟨rfl, rfl⟩ hle (cc_N_needNode l hf D cs B dE lim _ a0 x2 hs5) (fun _ h => h.elim) kd_N_needNode ki_N (Nat.le_of_ble_eq_true rfl) (Nat.le_of_ble_eq_true rfl) d_N_perform_6 (Nat.le_of_ble_eq_true rfl) (c_fV (n := 1) (ci := 0) C hE.1 rfl km_N_128 kv_N_needNode kl_N_needNode kd_N_needNode ⟨by decide, by decide, by decide⟩ rfl rfl d_N_perform_6 ho4) (fun v1 M1 hv hle => ?_) (fun E1 M1 hv hle => ?_)
      · rw [mbind_eq] at hF hS
        obtain ⟨hx, hM1⟩ := hv
        have hM2 := hM1.symm
        subst hM2
        generalize hq_w6 : F_N_needNode cs M a0 x2 = w6 at hF hS hx hle ⊢
        by_cases h07 : w6 = 0
        · rw [if_pos h07] at hF hS hx hle
          rw [if_pos h07]
          cases hx
          refine GW.eqs (st' := []) rfl ?_
          refine g_aload_n C d_N_perform_9 rfl ?_
          obtain ⟨ho8, hS⟩ := hS
          obtain ⟨hs9, hS⟩ := hS
          refine c_call (av := [.ref a0]) (rest := []) C hE (fun _ h => h.elim) ⟨rfl, rfl⟩ hle (cc_N_needRoom l hf D cs B dE lim _ a0  hs9) (fun _ h => h.elim) kd_N_needRoom ki_N (Nat.le_of_ble_eq_true rfl) (Nat.le_of_ble_eq_true rfl) d_N_perform_10 (Nat.le_of_ble_eq_true rfl) (c_fV (n := 0) (ci := 0) C hE.1 rfl km_N_113 kv_N_needRoom kl_N_needRoom kd_N_needRoom ⟨by decide, by decide, by decide⟩ rfl rfl d_N_perform_10 ho8) (fun v1 M1 hv hle => ?_) (fun E1 M1 hv hle => ?_)
          · rw [mbind_eq] at hF hS
            obtain ⟨hx, hM1⟩ := hv
            have hM2 := hM1.symm
            subst hM2
            generalize hq_w10 : F_N_needRoom cs M a0  = w10 at hF hS hx hle ⊢
            by_cases h011 : w10 = 0
            · rw [if_pos h011] at hF hS hx hle
              rw [if_pos h011]
              cases hx
              refine GW.eqs (st' := []) rfl ?_
              refine GW.more (A' := gA B) (fun _ h => h.elim) ?_
              obtain ⟨hl12, hS⟩ := hS
              refine c_new (M0 := M) (M := M) (ci := 4) (N := 11) (fs := [.int 0, .int 0, .int 0, .int 0, .int 0, .int 0, .int 0, .int 0, .int 0, .int 0, .int 0]) C hE.1 ⟨rfl, rfl⟩ hle i_No rfl t_No t_No_ok kc_N_116 kn_No ki_No (by decide) d_N_perform_13 hl12 (fun hle => ?_)
              refine g_dup C d_N_perform_16 rfl ?_
              refine g_bipush (v := 11) C d_N_perform_17 (by decide) ?_
              obtain ⟨hs13, hS⟩ := hS
              refine c_call (av := [.ref M.2.1, .int 11]) (rest := [.ref M.2.1]) C hE (fun _ h => h) ⟨rfl, rfl⟩ hle (cc_No_init l hf D cs B dE lim _ M.2.1 11 hs13) (fun _ h => h) kd_No_init ki_No (Nat.le_of_ble_eq_true rfl) (Nat.le_of_ble_eq_true rfl) d_N_perform_19 (Nat.le_of_ble_eq_true rfl) (c_fI (n := 1) C rfl km_N_118 kv_No_init kd_No_init ⟨by decide, by decide, by decide⟩ rfl rfl d_N_perform_19) (fun v1 M1 hv hle => ?_) (fun E1 M1 hv hle => ?_)
              · rw [mbind_eq] at hF hS
                obtain ⟨hx, hM1⟩ := hv
                have hM2 := hM1.symm
                subst hM2
                generalize hq_w14 : F_No_init cs (gnw M (1, .inr (4, [.int 0, .int 0, .int 0, .int 0, .int 0, .int 0, .int 0, .int 0, .int 0, .int 0, .int 0])) 11) M.2.1 11 = w14 at hF hS hx hle ⊢
                cases hx
                refine GW.eqs (st' := [.ref M.2.1]) rfl ?_
                refine g_astore_n (lv' := [(3, .ref M.2.1), (0, .ref a0), (1, .int x1), (2, .int x2)]) C d_N_perform_22 (by decide) rfl ?_
                refine g_aload_n C d_N_perform_23 rfl ?_
                refine g_iload_n C d_N_perform_24 rfl ?_
                obtain ⟨ho15, hS⟩ := hS
                refine k_put (M0 := M) (M := w14) C hE.1 (ci := 4) i_No rfl 1 (by decide) (by decide) kf_N_120 t_No t_No_ok n_No rfl (nf_i _) d_N_perform_25 ho15 ?_
                replace hle := cLe.cP (ci := 4) (a := M.2.1) (k := 1) (v := .int x1) hle
                refine g_aload_n C d_N_perform_28 rfl ?_
                refine g_iload_n C d_N_perform_29 rfl ?_
                obtain ⟨ho16, hS⟩ := hS
                refine k_put (M0 := M) (M := cP 4 w14 M.2.1 1 (.int x1)) C hE.1 (ci := 4) i_No rfl 4 (by decide) (by decide) kf_N_134 t_No t_No_ok n_No rfl (nf_i _) d_N_perform_30 ho16 ?_
                replace hle := cLe.cP (ci := 4) (a := M.2.1) (k := 4) (v := .int x2) hle
                refine g_aload_n C d_N_perform_33 rfl ?_
                obtain ⟨ho17, hS⟩ := hS
                refine c_getq C hE.1 (ci := 0) i_N rfl 1 (by decide) (by decide) (by decide) kf_N_19 d_N_perform_34 ho17 ?_
                refine g_aload_n C d_N_perform_37 rfl ?_
                obtain ⟨ho18, hS⟩ := hS
                refine GW.known2 (a := (cQ (cP 4 (cP 4 w14 M.2.1 1 (.int x1)) M.2.1 4 (.int x2)) a0 1).getD 0) (cOq.at ho18).1 ?_
                obtain ⟨hs19, hS⟩ := hS
                refine c_call (av := [.ref ((cQ (cP 4 (cP 4 w14 M.2.1 1 (.int x1)) M.2.1 4 (.int x2)) a0 1).getD 0), .ref M.2.1]) (rest := []) C hE (fun _ h => h) ⟨rfl, rfl⟩ hle (cc_Ns_add l hf D cs B dE lim n _ ((cQ (cP 4 (cP 4 w14 M.2.1 1 (.int x1)) M.2.1 4 (.int x2)) a0 1).getD 0) (some M.2.1) hs19) (fun _ h => h) kd_Ns_add ki_Ns (Nat.le_of_ble_eq_true rfl) (Nat.le_of_ble_eq_true rfl) d_N_perform_38 (Nat.le_of_ble_eq_true rfl) (c_fV (n := 1) (ci := 3) C hE.1 rfl km_N_124 kv_Ns_add kl_Ns_add kd_Ns_add ⟨by decide, by decide, by decide⟩ rfl rfl d_N_perform_38 (cOq.at ho18).2) (fun v1 M1 hv hle => ?_) (fun E1 M1 hv hle => ?_)
                · rw [mbind_eq] at hF hS
                  obtain ⟨hx, hM1⟩ := hv
                  have hM2 := hM1.symm
                  subst hM2
                  generalize hq_w20 : F_Ns_add cs n (cP 4 (cP 4 w14 M.2.1 1 (.int x1)) M.2.1 4 (.int x2)) ((cQ (cP 4 (cP 4 w14 M.2.1 1 (.int x1)) M.2.1 4 (.int x2)) a0 1).getD 0) (some M.2.1) = w20 at hF hS hx hle ⊢
                  cases hx
                  refine GW.eqs (st' := [.int w20.1]) rfl ?_
                  exact c_iret (M := w20.2) C hr hlocks hle d_N_perform_41 (by rw [← hF]; exact ⟨(if_pos rfl).symm, rfl⟩)
                · cases hv.1
              · cases hv.1
            · rw [if_neg h011] at hx
              cases hx
          · rw [mbind_eq] at hF
            obtain ⟨hx, hM1⟩ := hv
            have hM2 := hM1.symm
            subst hM2
            generalize F_N_needRoom cs M a0  = w10 at hF hx hle ⊢
            by_cases h011 : w10 = 0
            · rw [if_pos h011] at hx
              cases hx
            · rw [if_neg h011] at hF hx hle
              rw [if_neg h011]
              cases hx
              exact c_tleave (fun _ h => h.elim) hex hlocks hle (by rw [← hF]; exact ⟨by rw [if_neg h011], rfl⟩)
        · rw [if_neg h07] at hx
          cases hx
      · rw [mbind_eq] at hF
        obtain ⟨hx, hM1⟩ := hv
        have hM2 := hM1.symm
        subst hM2
        generalize F_N_needNode cs M a0 x2 = w6 at hF hx hle ⊢
        by_cases h07 : w6 = 0
        · rw [if_pos h07] at hx
          cases hx
        · rw [if_neg h07] at hF hx hle
          rw [if_neg h07]
          cases hx
          exact c_tleave (fun _ h => h.elim) hex hlocks hle (by rw [← hF]; exact ⟨by rw [if_neg h07], rfl⟩)
    · rw [if_neg h03] at hx
      cases hx
  · rw [mbind_eq] at hF
    obtain ⟨hx, hM1⟩ := hv
    have hM2 := hM1.symm
    subst hM2
    generalize F_N_needEffect cs M x1 = w2 at hF hx hle ⊢
    by_cases h03 : w2 = 0
    · rw [if_pos h03] at hx
      cases hx
    · rw [if_neg h03] at hF hx hle
      rw [if_neg h03]
      cases hx
      exact c_tleave (fun _ h => h.elim) hex hlocks hle (by rw [← hF]; exact ⟨by rw [if_neg h03], rfl⟩)
def F_N_check (cs : Nat → ClassId) (n : Nat) (M : gMem) (a0 : Nat) (x1 : Int32) : Nat × Int32 × gMem := mbind (F_N_needNode cs M a0 x1) (fun w3 => if w3 = 0 then (mbind (F_Ns_at cs M ((cQ M a0 1).getD 0) x1) (fun w8 => if 400 < (cI M (w8.getD 0) 9) then ((2, 0, gsk M)) else (if (cI M (w8.getD 0) 10) ≤ 40 then (mbind (F_Ma_unload cs M ((cQ M a0 6).getD 0) ) (fun w17 => mbind (F_Ck_examine cs n w17 ((cQ w17 a0 4).getD 0) x1) (fun w21 => if w21.1 = (-1) then ((3, 0, gsk w21.2)) else (mbind (F_Co_compile cs n w21.2 ((cQ w21.2 a0 5).getD 0) x1) (fun w26 => if 3 ≤ w21.1 then (mbind (F_Ma_load cs w26 ((cQ w26 a0 6).getD 0) 0) (fun w31 => (0, w21.1, w31))) else (mbind (F_Ma_load cs w26 ((cQ w26 a0 6).getD 0) 1) (fun w34 => (0, w21.1, w34)))))))) else ((2, 0, gsk M))))) else ((w3, 0, gsk M)))
def S_N_check (cs : Nat → ClassId) (lim : Nat × Nat) (n : Nat) (M : gMem) (a0 : Nat) (x1 : Int32) : Prop := (cOk 0 M a0) ∧ ((S_N_needNode cs lim M a0 x1) ∧ (mbind (F_N_needNode cs M a0 x1) (fun w3 => if w3 = 0 then ((cOk 0 M a0) ∧ ((cOq 3 M (cQ M a0 1)) ∧ ((S_Ns_at cs lim M ((cQ M a0 1).getD 0) x1) ∧ (mbind (F_Ns_at cs M ((cQ M a0 1).getD 0) x1) (fun w8 => (cOq 4 M w8) ∧ (if 400 < (cI M (w8.getD 0) 9) then ((M.2.1 + 1 ≤ lim.1 ∧ M.2.2 + 6 ≤ lim.2) ∧ (True)) else ((cOq 4 M w8) ∧ (if (cI M (w8.getD 0) 10) ≤ 40 then ((cOk 0 M a0) ∧ ((cOq 8 M (cQ M a0 6)) ∧ ((S_Ma_unload cs lim M ((cQ M a0 6).getD 0) ) ∧ (mbind (F_Ma_unload cs M ((cQ M a0 6).getD 0) ) (fun w17 => (cOk 0 w17 a0) ∧ ((cOq 6 w17 (cQ w17 a0 4)) ∧ ((S_Ck_examine cs lim n w17 ((cQ w17 a0 4).getD 0) x1) ∧ (mbind (F_Ck_examine cs n w17 ((cQ w17 a0 4).getD 0) x1) (fun w21 => if w21.1 = (-1) then ((w21.2.2.1 + 1 ≤ lim.1 ∧ w21.2.2.2 + 6 ≤ lim.2) ∧ (True)) else ((cOk 0 w21.2 a0) ∧ ((cOq 7 w21.2 (cQ w21.2 a0 5)) ∧ ((S_Co_compile cs lim n w21.2 ((cQ w21.2 a0 5).getD 0) x1) ∧ (mbind (F_Co_compile cs n w21.2 ((cQ w21.2 a0 5).getD 0) x1) (fun w26 => (cOk 0 w26 a0) ∧ (if 3 ≤ w21.1 then ((cOq 8 w26 (cQ w26 a0 6)) ∧ ((S_Ma_load cs lim w26 ((cQ w26 a0 6).getD 0) 0) ∧ (mbind (F_Ma_load cs w26 ((cQ w26 a0 6).getD 0) 0) (fun w31 => True)))) else ((cOq 8 w26 (cQ w26 a0 6)) ∧ ((S_Ma_load cs lim w26 ((cQ w26 a0 6).getD 0) 1) ∧ (mbind (F_Ma_load cs w26 ((cQ w26 a0 6).getD 0) 1) (fun w34 => True))))))))))))))))))) else ((M.2.1 + 1 ≤ lim.1 ∧ M.2.2 + 6 ≤ lim.2) ∧ (True)))))))))) else (True))))
set_option maxRecDepth 100000 in
set_option maxHeartbeats 4000000 in
theorem cc_N_check (l : Launch) (hf : l.flags = pinnedFlags ++ [noTraceFlag]) (D : va_G) (cs : Nat → ClassId) (B : Nat) (dE : Nat × Nat) (lim : Nat × Nat) (n : Nat) (M : gMem) (a0 : Nat) (x1 : Int32) (hS : S_N_check cs lim n M a0 x1) : cMet l y_N_check (Cond.code y_N_check c_N_check 4 (some .int)) (506) (16846) D cs B dE (gA B) lim [.ref a0, .int x1] M (fun x M' => x = (if (F_N_check cs n M a0 x1).1 = 0 then .inl (some (.int ((F_N_check cs n M a0 x1).2.1))) else .inr (exn (F_N_check cs n M a0 x1).1)) ∧ M' = (F_N_check cs n M a0 x1).2.2) := by
  refine cMet.ofW (by decide) (Nat.le_of_ble_eq_true rfl) (lv0 := [(0, .ref a0), (1, .int x1)]) rfl ?_
  intro p e s m args below meth c C hE hR0 hle hr hlocks hex hn
  generalize hF : F_N_check cs n M a0 x1 = Fv
  unfold F_N_check at hF
  unfold S_N_check at hS
  refine g_aload_n C d_N_check_0 rfl ?_
  refine g_iload_n C d_N_check_1 rfl ?_
  obtain ⟨ho1, hS⟩ := hS
  obtain ⟨hs2, hS⟩ := hS
  refine c_call (av := [.ref a0, .int x1]) (rest := []) C hE (fun _ h => h.elim) ⟨rfl, rfl⟩ hle (cc_N_needNode l hf D cs B dE lim _ a0 x1 hs2) (fun _ h => h.elim) kd_N_needNode ki_N (Nat.le_of_ble_eq_true rfl) (Nat.le_of_ble_eq_true rfl) d_N_check_2 (Nat.le_of_ble_eq_true rfl) (c_fV (n := 1) (ci := 0) C hE.1 rfl km_N_128 kv_N_needNode kl_N_needNode kd_N_needNode ⟨by decide, by decide, by decide⟩ rfl rfl d_N_check_2 ho1) (fun v1 M1 hv hle => ?_) (fun E1 M1 hv hle => ?_)
  · rw [mbind_eq] at hF hS
    obtain ⟨hx, hM1⟩ := hv
    have hM2 := hM1.symm
    subst hM2
    generalize hq_w3 : F_N_needNode cs M a0 x1 = w3 at hF hS hx hle ⊢
    by_cases h04 : w3 = 0
    · rw [if_pos h04] at hF hS hx hle
      rw [if_pos h04]
      cases hx
      refine GW.eqs (st' := []) rfl ?_
      refine g_aload_n C d_N_check_5 rfl ?_
      obtain ⟨ho5, hS⟩ := hS
      refine c_getq C hE.1 (ci := 0) i_N rfl 1 (by decide) (by decide) (by decide) kf_N_19 d_N_check_6 ho5 ?_
      refine g_iload_n C d_N_check_9 rfl ?_
      obtain ⟨ho6, hS⟩ := hS
      refine GW.known2 (a := (cQ M a0 1).getD 0) (cOq.at ho6).1 ?_
      obtain ⟨hs7, hS⟩ := hS
      refine c_call (av := [.ref ((cQ M a0 1).getD 0), .int x1]) (rest := []) C hE (fun _ h => h.elim) ⟨rfl, rfl⟩ hle (cc_Ns_at l hf D cs B dE lim _ ((cQ M a0 1).getD 0) x1 hs7) (fun _ h => h.elim) kd_Ns_at ki_Ns (Nat.le_of_ble_eq_true rfl) (Nat.le_of_ble_eq_true rfl) d_N_check_10 (Nat.le_of_ble_eq_true rfl) (c_fV (n := 1) (ci := 3) C hE.1 rfl km_N_173 kv_Ns_at kl_Ns_at kd_Ns_at ⟨by decide, by decide, by decide⟩ rfl rfl d_N_check_10 (cOq.at ho6).2) (fun v1 M1 hv hle => ?_) (fun E1 M1 hv hle => ?_)
      · rw [mbind_eq] at hF hS
        obtain ⟨hx, hM1⟩ := hv
        have hM2 := hM1.symm
        subst hM2
        generalize hq_w8 : F_Ns_at cs M ((cQ M a0 1).getD 0) x1 = w8 at hF hS hx hle ⊢
        cases hx
        refine GW.eqs (st' := [va_rf w8]) rfl ?_
        refine q_astore_n (r := w8) (lv' := [(2, va_rf w8), (0, .ref a0), (1, .int x1)]) C d_N_check_13 (by decide) rfl ?_
        refine q_aload_n (r := w8) C d_N_check_14 rfl ?_
        obtain ⟨ho9, hS⟩ := hS
        refine GW.known1 (a := w8.getD 0) (cOq.at ho9).1 ?_
        refine c_geti C hE.1 (ci := 4) i_No rfl 9 (by decide) (by decide) (by decide) kf_N_177 d_N_check_15 (cOq.at ho9).2 ?_
        refine g_sipush (v := 400) C d_N_check_18 (by decide) ?_
        refine g_icmp_gt C 33 d_N_check_21 (by decide) (fun hc10 => ?_) (fun hc10 => ?_)
        · rw [if_pos hc10] at hF hS
          obtain ⟨hl11, hS⟩ := hS
          exact c_throw C hf hex hlocks hR0 hl11 (gAts_of C hE (by decide +kernel) (by decide +kernel) ats_Sx) (gE_st hE kq_N_183) kc_N_90 kn_Sx ki_Sx ⟨rfl, rfl⟩ d_N_check_33 d_N_check_36 d_N_check_37 d_N_check_39 d_N_check_42 (Nat.le_of_ble_eq_true rfl) (Nat.le_of_ble_eq_true rfl) (by rw [← hF]; exact ⟨rfl, rfl⟩)
        · rw [if_neg hc10] at hF hS
          refine q_aload_n (r := w8) C d_N_check_24 rfl ?_
          obtain ⟨ho12, hS⟩ := hS
          refine GW.known1 (a := w8.getD 0) (cOq.at ho12).1 ?_
          refine c_geti C hE.1 (ci := 4) i_No rfl 10 (by decide) (by decide) (by decide) kf_N_180 d_N_check_25 (cOq.at ho12).2 ?_
          refine g_bipush (v := 40) C d_N_check_28 (by decide) ?_
          refine g_icmp_le C 43 d_N_check_30 (by decide) (fun hc13 => ?_) (fun hc13 => ?_)
          · rw [if_pos hc13] at hF hS
            refine g_aload_n C d_N_check_43 rfl ?_
            obtain ⟨ho14, hS⟩ := hS
            refine c_getq C hE.1 (ci := 0) i_N rfl 6 (by decide) (by decide) (by decide) kf_N_53 d_N_check_44 ho14 ?_
            refine GW.more (A' := gA B) (fun _ h => h.elim) ?_
            obtain ⟨ho15, hS⟩ := hS
            refine GW.known1 (a := (cQ M a0 6).getD 0) (cOq.at ho15).1 ?_
            obtain ⟨hs16, hS⟩ := hS
            refine c_call (av := [.ref ((cQ M a0 6).getD 0)]) (rest := []) C hE (fun _ h => h) ⟨rfl, rfl⟩ hle (cc_Ma_unload l hf D cs B dE lim _ ((cQ M a0 6).getD 0)  hs16) (fun _ h => h) kd_Ma_unload ki_Ma (Nat.le_of_ble_eq_true rfl) (Nat.le_of_ble_eq_true rfl) d_N_check_47 (Nat.le_of_ble_eq_true rfl) (c_fV (n := 0) (ci := 8) C hE.1 rfl km_N_73 kv_Ma_unload kl_Ma_unload kd_Ma_unload ⟨by decide, by decide, by decide⟩ rfl rfl d_N_check_47 (cOq.at ho15).2) (fun v1 M1 hv hle => ?_) (fun E1 M1 hv hle => ?_)
            · rw [mbind_eq] at hF hS
              obtain ⟨hx, hM1⟩ := hv
              have hM2 := hM1.symm
              subst hM2
              generalize hq_w17 : F_Ma_unload cs M ((cQ M a0 6).getD 0)  = w17 at hF hS hx hle ⊢
              cases hx
              refine GW.eqs (st' := []) rfl ?_
              refine g_aload_n C d_N_check_50 rfl ?_
              obtain ⟨ho18, hS⟩ := hS
              refine c_getq C hE.1 (ci := 0) i_N rfl 4 (by decide) (by decide) (by decide) kf_N_35 d_N_check_51 ho18 ?_
              refine g_iload_n C d_N_check_54 rfl ?_
              obtain ⟨ho19, hS⟩ := hS
              refine GW.known2 (a := (cQ w17 a0 4).getD 0) (cOq.at ho19).1 ?_
              obtain ⟨hs20, hS⟩ := hS
              refine c_call (av := [.ref ((cQ w17 a0 4).getD 0), .int x1]) (rest := []) C hE (fun _ h => h) ⟨rfl, rfl⟩ hle (cc_Ck_examine l hf D cs B dE lim n _ ((cQ w17 a0 4).getD 0) x1 hs20) (fun _ h => h) kd_Ck_examine ki_Ck (Nat.le_of_ble_eq_true rfl) (Nat.le_of_ble_eq_true rfl) d_N_check_55 (Nat.le_of_ble_eq_true rfl) (c_fV (n := 1) (ci := 6) C hE.1 rfl km_N_185 kv_Ck_examine kl_Ck_examine kd_Ck_examine ⟨by decide, by decide, by decide⟩ rfl rfl d_N_check_55 (cOq.at ho19).2) (fun v1 M1 hv hle => ?_) (fun E1 M1 hv hle => ?_)
              · rw [mbind_eq] at hF hS
                obtain ⟨hx, hM1⟩ := hv
                have hM2 := hM1.symm
                subst hM2
                generalize hq_w21 : F_Ck_examine cs n w17 ((cQ w17 a0 4).getD 0) x1 = w21 at hF hS hx hle ⊢
                cases hx
                refine GW.eqs (st' := [.int w21.1]) rfl ?_
                refine g_istore_n (lv' := [(3, .int w21.1), (2, va_rf w8), (0, .ref a0), (1, .int x1)]) C d_N_check_58 (by decide) (by first | rfl | (simp only [lvs, List.filter, rf_cat]; rfl) | simp [lvs, List.filter, rf_cat]) ?_
                refine g_iload_n C d_N_check_59 rfl ?_
                refine g_iconst (v := (-1)) C d_N_check_60 (by decide) ?_
                refine g_icmp_ne C 74 d_N_check_61 (by decide) (fun hc22 => ?_) (fun hc22 => ?_)
                · rw [if_neg hc22] at hF hS
                  refine g_aload_n C d_N_check_74 rfl ?_
                  obtain ⟨ho23, hS⟩ := hS
                  refine c_getq C hE.1 (ci := 0) i_N rfl 5 (by decide) (by decide) (by decide) kf_N_44 d_N_check_75 ho23 ?_
                  refine g_iload_n C d_N_check_78 rfl ?_
                  obtain ⟨ho24, hS⟩ := hS
                  refine GW.known2 (a := (cQ w21.2 a0 5).getD 0) (cOq.at ho24).1 ?_
                  obtain ⟨hs25, hS⟩ := hS
                  refine c_call (av := [.ref ((cQ w21.2 a0 5).getD 0), .int x1]) (rest := []) C hE (fun _ h => h) ⟨rfl, rfl⟩ hle (cc_Co_compile l hf D cs B dE lim n _ ((cQ w21.2 a0 5).getD 0) x1 hs25) (fun _ h => h) kd_Co_compile ki_Co (Nat.le_of_ble_eq_true rfl) (Nat.le_of_ble_eq_true rfl) d_N_check_79 (Nat.le_of_ble_eq_true rfl) (c_fV (n := 1) (ci := 7) C hE.1 rfl km_N_194 kv_Co_compile kl_Co_compile kd_Co_compile ⟨by decide, by decide, by decide⟩ rfl rfl d_N_check_79 (cOq.at ho24).2) (fun v1 M1 hv hle => ?_) (fun E1 M1 hv hle => ?_)
                  · rw [mbind_eq] at hF hS
                    obtain ⟨hx, hM1⟩ := hv
                    have hM2 := hM1.symm
                    subst hM2
                    generalize hq_w26 : F_Co_compile cs n w21.2 ((cQ w21.2 a0 5).getD 0) x1 = w26 at hF hS hx hle ⊢
                    cases hx
                    refine GW.eqs (st' := []) rfl ?_
                    refine g_aload_n C d_N_check_82 rfl ?_
                    obtain ⟨ho27, hS⟩ := hS
                    refine c_getq C hE.1 (ci := 0) i_N rfl 6 (by decide) (by decide) (by decide) kf_N_53 d_N_check_83 ho27 ?_
                    refine g_iload_n C d_N_check_86 rfl ?_
                    refine g_iconst (v := 3) C d_N_check_87 (by decide) ?_
                    refine g_icmp_ge C 95 d_N_check_88 (by decide) (fun hc28 => ?_) (fun hc28 => ?_)
                    · rw [if_pos hc28] at hF hS
                      refine g_iconst (v := 0) C d_N_check_95 (by decide) ?_
                      obtain ⟨ho29, hS⟩ := hS
                      refine GW.known2 (a := (cQ w26 a0 6).getD 0) (cOq.at ho29).1 ?_
                      obtain ⟨hs30, hS⟩ := hS
                      refine c_call (av := [.ref ((cQ w26 a0 6).getD 0), .int 0]) (rest := []) C hE (fun _ h => h) ⟨rfl, rfl⟩ hle (cc_Ma_load l hf D cs B dE lim _ ((cQ w26 a0 6).getD 0) 0 hs30) (fun _ h => h) kd_Ma_load ki_Ma (Nat.le_of_ble_eq_true rfl) (Nat.le_of_ble_eq_true rfl) d_N_check_96 (Nat.le_of_ble_eq_true rfl) (c_fV (n := 1) (ci := 8) C hE.1 rfl km_N_197 kv_Ma_load kl_Ma_load kd_Ma_load ⟨by decide, by decide, by decide⟩ rfl rfl d_N_check_96 (cOq.at ho29).2) (fun v1 M1 hv hle => ?_) (fun E1 M1 hv hle => ?_)
                      · rw [mbind_eq] at hF hS
                        obtain ⟨hx, hM1⟩ := hv
                        have hM2 := hM1.symm
                        subst hM2
                        generalize hq_w31 : F_Ma_load cs w26 ((cQ w26 a0 6).getD 0) 0 = w31 at hF hS hx hle ⊢
                        cases hx
                        refine GW.eqs (st' := []) rfl ?_
                        refine g_iload_n C d_N_check_99 rfl ?_
                        exact c_iret (M := w31) C hr hlocks hle d_N_check_100 (by rw [← hF]; exact ⟨(if_pos rfl).symm, rfl⟩)
                      · cases hv.1
                    · rw [if_neg hc28] at hF hS
                      refine g_iconst (v := 1) C d_N_check_91 (by decide) ?_
                      refine g_goto C 96 d_N_check_92 (by decide) ?_
                      obtain ⟨ho32, hS⟩ := hS
                      refine GW.known2 (a := (cQ w26 a0 6).getD 0) (cOq.at ho32).1 ?_
                      obtain ⟨hs33, hS⟩ := hS
                      refine c_call (av := [.ref ((cQ w26 a0 6).getD 0), .int 1]) (rest := []) C hE (fun _ h => h) ⟨rfl, rfl⟩ hle (cc_Ma_load l hf D cs B dE lim _ ((cQ w26 a0 6).getD 0) 1 hs33) (fun _ h => h) kd_Ma_load ki_Ma (Nat.le_of_ble_eq_true rfl) (Nat.le_of_ble_eq_true rfl) d_N_check_96 (Nat.le_of_ble_eq_true rfl) (c_fV (n := 1) (ci := 8) C hE.1 rfl km_N_197 kv_Ma_load kl_Ma_load kd_Ma_load ⟨by decide, by decide, by decide⟩ rfl rfl d_N_check_96 (cOq.at ho32).2) (fun v1 M1 hv hle => ?_) (fun E1 M1 hv hle => ?_)
                      · rw [mbind_eq] at hF hS
                        obtain ⟨hx, hM1⟩ := hv
                        have hM2 := hM1.symm
                        subst hM2
                        generalize hq_w34 : F_Ma_load cs w26 ((cQ w26 a0 6).getD 0) 1 = w34 at hF hS hx hle ⊢
                        cases hx
                        refine GW.eqs (st' := []) rfl ?_
                        refine g_iload_n C d_N_check_99 rfl ?_
                        exact c_iret (M := w34) C hr hlocks hle d_N_check_100 (by rw [← hF]; exact ⟨(if_pos rfl).symm, rfl⟩)
                      · cases hv.1
                  · cases hv.1
                · rw [if_pos hc22] at hF hS
                  obtain ⟨hl35, hS⟩ := hS
                  refine c_late (M0 := M) (M := w21.2) (fun _ h => h) C hE ⟨rfl, rfl⟩ hle (fun U CU hEU hRU => ?_)
                  exact c_throw CU hf hex hlocks hRU hl35 (gAts_of CU hEU (by decide +kernel) (by decide +kernel) ats_Ax) (gE_st hEU kq_N_191) kc_N_189 kn_Ax ki_Ax ⟨rfl, rfl⟩ d_N_check_64 d_N_check_67 d_N_check_68 d_N_check_70 d_N_check_73 (Nat.le_of_ble_eq_true rfl) (Nat.le_of_ble_eq_true rfl) (by rw [← hF]; exact ⟨rfl, rfl⟩)
              · cases hv.1
            · cases hv.1
          · rw [if_neg hc13] at hF hS
            obtain ⟨hl36, hS⟩ := hS
            exact c_throw C hf hex hlocks hR0 hl36 (gAts_of C hE (by decide +kernel) (by decide +kernel) ats_Sx) (gE_st hE kq_N_183) kc_N_90 kn_Sx ki_Sx ⟨rfl, rfl⟩ d_N_check_33 d_N_check_36 d_N_check_37 d_N_check_39 d_N_check_42 (Nat.le_of_ble_eq_true rfl) (Nat.le_of_ble_eq_true rfl) (by rw [← hF]; exact ⟨rfl, rfl⟩)
      · cases hv.1
    · rw [if_neg h04] at hx
      cases hx
  · rw [mbind_eq] at hF
    obtain ⟨hx, hM1⟩ := hv
    have hM2 := hM1.symm
    subst hM2
    generalize F_N_needNode cs M a0 x1 = w3 at hF hx hle ⊢
    by_cases h04 : w3 = 0
    · rw [if_pos h04] at hx
      cases hx
    · rw [if_neg h04] at hF hx hle
      rw [if_neg h04]
      cases hx
      exact c_tleave (fun _ h => h.elim) hex hlocks hle (by rw [← hF]; exact ⟨by rw [if_neg h04], rfl⟩)
def F_N_fault (cs : Nat → ClassId) (M : gMem) (a0 : Nat) (x1 : Int32) : Int32 := if x1 = 0 then (cI M ((cQ M a0 4).getD 0) 5) else (if x1 = 1 then (cI M ((cQ M a0 4).getD 0) 6) else (if x1 = 2 then (cI M ((cQ M a0 4).getD 0) 7) else ((-1))))
def S_N_fault (cs : Nat → ClassId) (lim : Nat × Nat) (M : gMem) (a0 : Nat) (x1 : Int32) : Prop := if x1 = 0 then ((cOk 0 M a0) ∧ ((cOq 6 M (cQ M a0 4)) ∧ (True))) else (if x1 = 1 then ((cOk 0 M a0) ∧ ((cOq 6 M (cQ M a0 4)) ∧ (True))) else (if x1 = 2 then ((cOk 0 M a0) ∧ ((cOq 6 M (cQ M a0 4)) ∧ (True))) else (True)))
set_option maxRecDepth 100000 in
set_option maxHeartbeats 4000000 in
theorem cc_N_fault (l : Launch) (hf : l.flags = pinnedFlags ++ [noTraceFlag]) (D : va_G) (cs : Nat → ClassId) (B : Nat) (dE : Nat × Nat) (lim : Nat × Nat) (M : gMem) (a0 : Nat) (x1 : Int32) (hS : S_N_fault cs lim M a0 x1) : cMet l y_N_fault (Cond.code y_N_fault c_N_fault 2 (some .int)) (0) (0) D cs B dE (fun _ => False) lim [.ref a0, .int x1] M (fun x M' => x = .inl (some (.int (F_N_fault cs M a0 x1))) ∧ M' = M) := by
  refine cMet.ofW (by decide) (Nat.le_of_ble_eq_true rfl) (lv0 := [(0, .ref a0), (1, .int x1)]) rfl ?_
  intro p e s m args below meth c C hE hR0 hle hr hlocks hex hn
  generalize hF : F_N_fault cs M a0 x1 = Fv
  unfold F_N_fault at hF
  unfold S_N_fault at hS
  refine g_iload_n C d_N_fault_0 rfl ?_
  by_cases hc1 : x1 = 0
  · rw [if_pos hc1] at hF hS
    refine g_tableIn C 28 d_N_fault_1 (by rw [hc1]; decide) (by rw [hc1]; decide) (by rw [hc1]; rfl) (by decide) ?_
    refine g_aload_n C d_N_fault_28 rfl ?_
    obtain ⟨ho2, hS⟩ := hS
    refine c_getq C hE.1 (ci := 0) i_N rfl 4 (by decide) (by decide) (by decide) kf_N_35 d_N_fault_29 ho2 ?_
    obtain ⟨ho3, hS⟩ := hS
    refine GW.known1 (a := (cQ M a0 4).getD 0) (cOq.at ho3).1 ?_
    refine c_getiN C hE.1 (ci := 6) i_Ck rfl 5 (by decide) (by decide) (by decide) (gE_fN hE kf_N_201) d_N_fault_32 (cOq.at ho3).2 ?_
    exact c_iret (M := M) C hr hlocks hle d_N_fault_35 (by rw [← hF]; exact ⟨rfl, rfl⟩)
  · rw [if_neg hc1] at hF hS
    by_cases hc4 : x1 = 1
    · rw [if_pos hc4] at hF hS
      refine g_tableIn C 36 d_N_fault_1 (by rw [hc4]; decide) (by rw [hc4]; decide) (by rw [hc4]; rfl) (by decide) ?_
      refine g_aload_n C d_N_fault_36 rfl ?_
      obtain ⟨ho5, hS⟩ := hS
      refine c_getq C hE.1 (ci := 0) i_N rfl 4 (by decide) (by decide) (by decide) kf_N_35 d_N_fault_37 ho5 ?_
      obtain ⟨ho6, hS⟩ := hS
      refine GW.known1 (a := (cQ M a0 4).getD 0) (cOq.at ho6).1 ?_
      refine c_getiN C hE.1 (ci := 6) i_Ck rfl 6 (by decide) (by decide) (by decide) (gE_fN hE kf_N_204) d_N_fault_40 (cOq.at ho6).2 ?_
      exact c_iret (M := M) C hr hlocks hle d_N_fault_43 (by rw [← hF]; exact ⟨rfl, rfl⟩)
    · rw [if_neg hc4] at hF hS
      by_cases hc7 : x1 = 2
      · rw [if_pos hc7] at hF hS
        refine g_tableIn C 44 d_N_fault_1 (by rw [hc7]; decide) (by rw [hc7]; decide) (by rw [hc7]; rfl) (by decide) ?_
        refine g_aload_n C d_N_fault_44 rfl ?_
        obtain ⟨ho8, hS⟩ := hS
        refine c_getq C hE.1 (ci := 0) i_N rfl 4 (by decide) (by decide) (by decide) kf_N_35 d_N_fault_45 ho8 ?_
        obtain ⟨ho9, hS⟩ := hS
        refine GW.known1 (a := (cQ M a0 4).getD 0) (cOq.at ho9).1 ?_
        refine c_getiN C hE.1 (ci := 6) i_Ck rfl 7 (by decide) (by decide) (by decide) (gE_fN hE kf_N_207) d_N_fault_48 (cOq.at ho9).2 ?_
        exact c_iret (M := M) C hr hlocks hle d_N_fault_51 (by rw [← hF]; exact ⟨rfl, rfl⟩)
      · rw [if_neg hc7] at hF hS
        refine g_tableOut C 52 d_N_fault_1 (by have := lv_neT hc1 (show (0 : Int32).toInt = 0 by decide); have := lv_neT hc4 (show (1 : Int32).toInt = 1 by decide); have := lv_neT hc7 (show (2 : Int32).toInt = 2 by decide); omega) (by decide) ?_
        refine g_iconst (v := (-1)) C d_N_fault_52 (by decide) ?_
        exact c_iret (M := M) C hr hlocks hle d_N_fault_53 (by rw [← hF]; exact ⟨rfl, rfl⟩)
def F_N_type (cs : Nat → ClassId) (M : gMem) (a0 : Nat) (x1 : Int32) (x2 : Int32) : Int32 := mbind (F_Ty_isFunction cs M ((cQ M a0 0).getD 0) x1) (fun w4 => if w4 = 0 then ((-1)) else (if x2 = 0 then (mbind (F_Ty_argumentOf cs M ((cQ M a0 0).getD 0) x1) (fun w10 => w10)) else (if x2 = 1 then (mbind (F_Ty_resultOf cs M ((cQ M a0 0).getD 0) x1) (fun w15 => w15)) else (if x2 = 2 then (mbind (F_Ty_rowOf cs M ((cQ M a0 0).getD 0) x1) (fun w20 => w20)) else ((-1))))))
def S_N_type (cs : Nat → ClassId) (lim : Nat × Nat) (M : gMem) (a0 : Nat) (x1 : Int32) (x2 : Int32) : Prop := (cOk 0 M a0) ∧ ((cOq 1 M (cQ M a0 0)) ∧ ((S_Ty_isFunction cs lim M ((cQ M a0 0).getD 0) x1) ∧ (mbind (F_Ty_isFunction cs M ((cQ M a0 0).getD 0) x1) (fun w4 => if w4 = 0 then (True) else (if x2 = 0 then ((cOk 0 M a0) ∧ ((cOq 1 M (cQ M a0 0)) ∧ ((S_Ty_argumentOf cs lim M ((cQ M a0 0).getD 0) x1) ∧ (mbind (F_Ty_argumentOf cs M ((cQ M a0 0).getD 0) x1) (fun w10 => True))))) else (if x2 = 1 then ((cOk 0 M a0) ∧ ((cOq 1 M (cQ M a0 0)) ∧ ((S_Ty_resultOf cs lim M ((cQ M a0 0).getD 0) x1) ∧ (mbind (F_Ty_resultOf cs M ((cQ M a0 0).getD 0) x1) (fun w15 => True))))) else (if x2 = 2 then ((cOk 0 M a0) ∧ ((cOq 1 M (cQ M a0 0)) ∧ ((S_Ty_rowOf cs lim M ((cQ M a0 0).getD 0) x1) ∧ (mbind (F_Ty_rowOf cs M ((cQ M a0 0).getD 0) x1) (fun w20 => True))))) else (True))))))))
set_option maxRecDepth 100000 in
set_option maxHeartbeats 4000000 in
theorem cc_N_type (l : Launch) (hf : l.flags = pinnedFlags ++ [noTraceFlag]) (D : va_G) (cs : Nat → ClassId) (B : Nat) (dE : Nat × Nat) (lim : Nat × Nat) (M : gMem) (a0 : Nat) (x1 : Int32) (x2 : Int32) (hS : S_N_type cs lim M a0 x1 x2) : cMet l y_N_type (Cond.code y_N_type c_N_type 3 (some .int)) (2) (42) D cs B dE (fun _ => False) lim [.ref a0, .int x1, .int x2] M (fun x M' => x = .inl (some (.int (F_N_type cs M a0 x1 x2))) ∧ M' = M) := by
  refine cMet.ofW (by decide) (Nat.le_of_ble_eq_true rfl) (lv0 := [(0, .ref a0), (1, .int x1), (2, .int x2)]) rfl ?_
  intro p e s m args below meth c C hE hR0 hle hr hlocks hex hn
  generalize hF : F_N_type cs M a0 x1 x2 = Fv
  unfold F_N_type at hF
  unfold S_N_type at hS
  refine g_aload_n C d_N_type_0 rfl ?_
  obtain ⟨ho1, hS⟩ := hS
  refine c_getq C hE.1 (ci := 0) i_N rfl 0 (by decide) (by decide) (by decide) kf_N_10 d_N_type_1 ho1 ?_
  refine g_iload_n C d_N_type_4 rfl ?_
  obtain ⟨ho2, hS⟩ := hS
  refine GW.known2 (a := (cQ M a0 0).getD 0) (cOq.at ho2).1 ?_
  obtain ⟨hs3, hS⟩ := hS
  refine c_call (av := [.ref ((cQ M a0 0).getD 0), .int x1]) (rest := []) C hE (fun _ h => h.elim) ⟨rfl, rfl⟩ hle (cc_Ty_isFunction l hf D cs B dE lim _ ((cQ M a0 0).getD 0) x1 hs3) (fun _ h => h.elim) kd_Ty_isFunction ki_Ty (Nat.le_of_ble_eq_true rfl) (Nat.le_of_ble_eq_true rfl) d_N_type_5 (Nat.le_of_ble_eq_true rfl) (c_fV (n := 1) (ci := 1) C hE.1 rfl km_N_140 kv_Ty_isFunction kl_Ty_isFunction kd_Ty_isFunction ⟨by decide, by decide, by decide⟩ rfl rfl d_N_type_5 (cOq.at ho2).2) (fun v1 M1 hv hle => ?_) (fun E1 M1 hv hle => ?_)
  · rw [mbind_eq] at hF hS
    obtain ⟨hx, hM1⟩ := hv
    have hM2 := hM1.symm
    subst hM2
    generalize hq_w4 : F_Ty_isFunction cs M ((cQ M a0 0).getD 0) x1 = w4 at hF hS hx hle ⊢
    cases hx
    refine GW.eqs (st' := [.int w4]) rfl ?_
    refine g_if_ne C 13 d_N_type_8 (by decide) (fun hc5 => ?_) (fun hc5 => ?_)
    · rw [if_neg hc5] at hF hS
      refine g_iload_n C d_N_type_13 rfl ?_
      by_cases hc6 : x2 = 0
      · rw [if_pos hc6] at hF hS
        refine g_tableIn C 40 d_N_type_14 (by rw [hc6]; decide) (by rw [hc6]; decide) (by rw [hc6]; rfl) (by decide) ?_
        refine g_aload_n C d_N_type_40 rfl ?_
        obtain ⟨ho7, hS⟩ := hS
        refine c_getq C hE.1 (ci := 0) i_N rfl 0 (by decide) (by decide) (by decide) kf_N_10 d_N_type_41 ho7 ?_
        refine g_iload_n C d_N_type_44 rfl ?_
        obtain ⟨ho8, hS⟩ := hS
        refine GW.known2 (a := (cQ M a0 0).getD 0) (cOq.at ho8).1 ?_
        obtain ⟨hs9, hS⟩ := hS
        refine c_call (av := [.ref ((cQ M a0 0).getD 0), .int x1]) (rest := []) C hE (fun _ h => h.elim) ⟨rfl, rfl⟩ hle (cc_Ty_argumentOf l hf D cs B dE lim _ ((cQ M a0 0).getD 0) x1 hs9) (fun _ h => h.elim) kd_Ty_argumentOf ki_Ty (Nat.le_of_ble_eq_true rfl) (Nat.le_of_ble_eq_true rfl) d_N_type_45 (Nat.le_of_ble_eq_true rfl) (c_fV (n := 1) (ci := 1) C hE.1 rfl km_N_210 kv_Ty_argumentOf kl_Ty_argumentOf kd_Ty_argumentOf ⟨by decide, by decide, by decide⟩ rfl rfl d_N_type_45 (cOq.at ho8).2) (fun v1 M1 hv hle => ?_) (fun E1 M1 hv hle => ?_)
        · rw [mbind_eq] at hF hS
          obtain ⟨hx, hM1⟩ := hv
          have hM2 := hM1.symm
          subst hM2
          generalize hq_w10 : F_Ty_argumentOf cs M ((cQ M a0 0).getD 0) x1 = w10 at hF hS hx hle ⊢
          cases hx
          refine GW.eqs (st' := [.int w10]) rfl ?_
          exact c_iret (M := M) C hr hlocks hle d_N_type_48 (by rw [← hF]; exact ⟨rfl, rfl⟩)
        · cases hv.1
      · rw [if_neg hc6] at hF hS
        by_cases hc11 : x2 = 1
        · rw [if_pos hc11] at hF hS
          refine g_tableIn C 49 d_N_type_14 (by rw [hc11]; decide) (by rw [hc11]; decide) (by rw [hc11]; rfl) (by decide) ?_
          refine g_aload_n C d_N_type_49 rfl ?_
          obtain ⟨ho12, hS⟩ := hS
          refine c_getq C hE.1 (ci := 0) i_N rfl 0 (by decide) (by decide) (by decide) kf_N_10 d_N_type_50 ho12 ?_
          refine g_iload_n C d_N_type_53 rfl ?_
          obtain ⟨ho13, hS⟩ := hS
          refine GW.known2 (a := (cQ M a0 0).getD 0) (cOq.at ho13).1 ?_
          obtain ⟨hs14, hS⟩ := hS
          refine c_call (av := [.ref ((cQ M a0 0).getD 0), .int x1]) (rest := []) C hE (fun _ h => h.elim) ⟨rfl, rfl⟩ hle (cc_Ty_resultOf l hf D cs B dE lim _ ((cQ M a0 0).getD 0) x1 hs14) (fun _ h => h.elim) kd_Ty_resultOf ki_Ty (Nat.le_of_ble_eq_true rfl) (Nat.le_of_ble_eq_true rfl) d_N_type_54 (Nat.le_of_ble_eq_true rfl) (c_fV (n := 1) (ci := 1) C hE.1 rfl km_N_213 kv_Ty_resultOf kl_Ty_resultOf kd_Ty_resultOf ⟨by decide, by decide, by decide⟩ rfl rfl d_N_type_54 (cOq.at ho13).2) (fun v1 M1 hv hle => ?_) (fun E1 M1 hv hle => ?_)
          · rw [mbind_eq] at hF hS
            obtain ⟨hx, hM1⟩ := hv
            have hM2 := hM1.symm
            subst hM2
            generalize hq_w15 : F_Ty_resultOf cs M ((cQ M a0 0).getD 0) x1 = w15 at hF hS hx hle ⊢
            cases hx
            refine GW.eqs (st' := [.int w15]) rfl ?_
            exact c_iret (M := M) C hr hlocks hle d_N_type_57 (by rw [← hF]; exact ⟨rfl, rfl⟩)
          · cases hv.1
        · rw [if_neg hc11] at hF hS
          by_cases hc16 : x2 = 2
          · rw [if_pos hc16] at hF hS
            refine g_tableIn C 58 d_N_type_14 (by rw [hc16]; decide) (by rw [hc16]; decide) (by rw [hc16]; rfl) (by decide) ?_
            refine g_aload_n C d_N_type_58 rfl ?_
            obtain ⟨ho17, hS⟩ := hS
            refine c_getq C hE.1 (ci := 0) i_N rfl 0 (by decide) (by decide) (by decide) kf_N_10 d_N_type_59 ho17 ?_
            refine g_iload_n C d_N_type_62 rfl ?_
            obtain ⟨ho18, hS⟩ := hS
            refine GW.known2 (a := (cQ M a0 0).getD 0) (cOq.at ho18).1 ?_
            obtain ⟨hs19, hS⟩ := hS
            refine c_call (av := [.ref ((cQ M a0 0).getD 0), .int x1]) (rest := []) C hE (fun _ h => h.elim) ⟨rfl, rfl⟩ hle (cc_Ty_rowOf l hf D cs B dE lim _ ((cQ M a0 0).getD 0) x1 hs19) (fun _ h => h.elim) kd_Ty_rowOf ki_Ty (Nat.le_of_ble_eq_true rfl) (Nat.le_of_ble_eq_true rfl) d_N_type_63 (Nat.le_of_ble_eq_true rfl) (c_fV (n := 1) (ci := 1) C hE.1 rfl km_N_216 kv_Ty_rowOf kl_Ty_rowOf kd_Ty_rowOf ⟨by decide, by decide, by decide⟩ rfl rfl d_N_type_63 (cOq.at ho18).2) (fun v1 M1 hv hle => ?_) (fun E1 M1 hv hle => ?_)
            · rw [mbind_eq] at hF hS
              obtain ⟨hx, hM1⟩ := hv
              have hM2 := hM1.symm
              subst hM2
              generalize hq_w20 : F_Ty_rowOf cs M ((cQ M a0 0).getD 0) x1 = w20 at hF hS hx hle ⊢
              cases hx
              refine GW.eqs (st' := [.int w20]) rfl ?_
              exact c_iret (M := M) C hr hlocks hle d_N_type_66 (by rw [← hF]; exact ⟨rfl, rfl⟩)
            · cases hv.1
          · rw [if_neg hc16] at hF hS
            refine g_tableOut C 67 d_N_type_14 (by have := lv_neT hc6 (show (0 : Int32).toInt = 0 by decide); have := lv_neT hc11 (show (1 : Int32).toInt = 1 by decide); have := lv_neT hc16 (show (2 : Int32).toInt = 2 by decide); omega) (by decide) ?_
            refine g_iconst (v := (-1)) C d_N_type_67 (by decide) ?_
            exact c_iret (M := M) C hr hlocks hle d_N_type_68 (by rw [← hF]; exact ⟨rfl, rfl⟩)
    · rw [if_pos hc5] at hF hS
      refine g_iconst (v := (-1)) C d_N_type_11 (by decide) ?_
      exact c_iret (M := M) C hr hlocks hle d_N_type_12 (by rw [← hF]; exact ⟨rfl, rfl⟩)
  · cases hv.1
def F_N_fits (cs : Nat → ClassId) (M : gMem) (a0 : Nat) (x1 : Int32) (x2 : Int32) : Int32 := mbind (F_Ty_isType cs M ((cQ M a0 0).getD 0) x1) (fun w4 => if w4 = 0 then (0) else (mbind (F_Ty_isType cs M ((cQ M a0 0).getD 0) x2) (fun w9 => if w9 = 0 then (0) else (mbind (F_Ty_suits cs M ((cQ M a0 0).getD 0) x1 x2) (fun w14 => if w14 = 0 then (0) else (1))))))
def S_N_fits (cs : Nat → ClassId) (lim : Nat × Nat) (M : gMem) (a0 : Nat) (x1 : Int32) (x2 : Int32) : Prop := (cOk 0 M a0) ∧ ((cOq 1 M (cQ M a0 0)) ∧ ((S_Ty_isType cs lim M ((cQ M a0 0).getD 0) x1) ∧ (mbind (F_Ty_isType cs M ((cQ M a0 0).getD 0) x1) (fun w4 => if w4 = 0 then (True) else ((cOk 0 M a0) ∧ ((cOq 1 M (cQ M a0 0)) ∧ ((S_Ty_isType cs lim M ((cQ M a0 0).getD 0) x2) ∧ (mbind (F_Ty_isType cs M ((cQ M a0 0).getD 0) x2) (fun w9 => if w9 = 0 then (True) else ((cOk 0 M a0) ∧ ((cOq 1 M (cQ M a0 0)) ∧ ((S_Ty_suits cs lim M ((cQ M a0 0).getD 0) x1 x2) ∧ (mbind (F_Ty_suits cs M ((cQ M a0 0).getD 0) x1 x2) (fun w14 => if w14 = 0 then (True) else (True)))))))))))))))
set_option maxRecDepth 100000 in
set_option maxHeartbeats 4000000 in
theorem cc_N_fits (l : Launch) (hf : l.flags = pinnedFlags ++ [noTraceFlag]) (D : va_G) (cs : Nat → ClassId) (B : Nat) (dE : Nat × Nat) (lim : Nat × Nat) (M : gMem) (a0 : Nat) (x1 : Int32) (x2 : Int32) (hS : S_N_fits cs lim M a0 x1 x2) : cMet l y_N_fits (Cond.code y_N_fits c_N_fits 3 (some .boolean)) (2) (43) D cs B dE (fun _ => False) lim [.ref a0, .int x1, .int x2] M (fun x M' => x = .inl (some (.int (F_N_fits cs M a0 x1 x2))) ∧ M' = M) := by
  refine cMet.ofW (by decide) (Nat.le_of_ble_eq_true rfl) (lv0 := [(0, .ref a0), (1, .int x1), (2, .int x2)]) rfl ?_
  intro p e s m args below meth c C hE hR0 hle hr hlocks hex hn
  generalize hF : F_N_fits cs M a0 x1 x2 = Fv
  unfold F_N_fits at hF
  unfold S_N_fits at hS
  refine g_aload_n C d_N_fits_0 rfl ?_
  obtain ⟨ho1, hS⟩ := hS
  refine c_getq C hE.1 (ci := 0) i_N rfl 0 (by decide) (by decide) (by decide) kf_N_10 d_N_fits_1 ho1 ?_
  refine g_iload_n C d_N_fits_4 rfl ?_
  obtain ⟨ho2, hS⟩ := hS
  refine GW.known2 (a := (cQ M a0 0).getD 0) (cOq.at ho2).1 ?_
  obtain ⟨hs3, hS⟩ := hS
  refine c_call (av := [.ref ((cQ M a0 0).getD 0), .int x1]) (rest := []) C hE (fun _ h => h.elim) ⟨rfl, rfl⟩ hle (cc_Ty_isType l hf D cs B dE lim _ ((cQ M a0 0).getD 0) x1 hs3) (fun _ h => h.elim) kd_Ty_isType ki_Ty (Nat.le_of_ble_eq_true rfl) (Nat.le_of_ble_eq_true rfl) d_N_fits_5 (Nat.le_of_ble_eq_true rfl) (c_fV (n := 1) (ci := 1) C hE.1 rfl km_N_219 kv_Ty_isType kl_Ty_isType kd_Ty_isType ⟨by decide, by decide, by decide⟩ rfl rfl d_N_fits_5 (cOq.at ho2).2) (fun v1 M1 hv hle => ?_) (fun E1 M1 hv hle => ?_)
  · rw [mbind_eq] at hF hS
    obtain ⟨hx, hM1⟩ := hv
    have hM2 := hM1.symm
    subst hM2
    generalize hq_w4 : F_Ty_isType cs M ((cQ M a0 0).getD 0) x1 = w4 at hF hS hx hle ⊢
    cases hx
    refine GW.eqs (st' := [.int w4]) rfl ?_
    refine g_if_eq C 38 d_N_fits_8 (by decide) (fun hc5 => ?_) (fun hc5 => ?_)
    · rw [if_pos hc5] at hF hS
      refine g_iconst (v := 0) C d_N_fits_38 (by decide) ?_
      exact c_zret (M := M) C hr hlocks hle (by decide) d_N_fits_39 (by rw [← hF]; exact ⟨rfl, rfl⟩)
    · rw [if_neg hc5] at hF hS
      refine g_aload_n C d_N_fits_11 rfl ?_
      obtain ⟨ho6, hS⟩ := hS
      refine c_getq C hE.1 (ci := 0) i_N rfl 0 (by decide) (by decide) (by decide) kf_N_10 d_N_fits_12 ho6 ?_
      refine g_iload_n C d_N_fits_15 rfl ?_
      obtain ⟨ho7, hS⟩ := hS
      refine GW.known2 (a := (cQ M a0 0).getD 0) (cOq.at ho7).1 ?_
      obtain ⟨hs8, hS⟩ := hS
      refine c_call (av := [.ref ((cQ M a0 0).getD 0), .int x2]) (rest := []) C hE (fun _ h => h.elim) ⟨rfl, rfl⟩ hle (cc_Ty_isType l hf D cs B dE lim _ ((cQ M a0 0).getD 0) x2 hs8) (fun _ h => h.elim) kd_Ty_isType ki_Ty (Nat.le_of_ble_eq_true rfl) (Nat.le_of_ble_eq_true rfl) d_N_fits_16 (Nat.le_of_ble_eq_true rfl) (c_fV (n := 1) (ci := 1) C hE.1 rfl km_N_219 kv_Ty_isType kl_Ty_isType kd_Ty_isType ⟨by decide, by decide, by decide⟩ rfl rfl d_N_fits_16 (cOq.at ho7).2) (fun v1 M1 hv hle => ?_) (fun E1 M1 hv hle => ?_)
      · rw [mbind_eq] at hF hS
        obtain ⟨hx, hM1⟩ := hv
        have hM2 := hM1.symm
        subst hM2
        generalize hq_w9 : F_Ty_isType cs M ((cQ M a0 0).getD 0) x2 = w9 at hF hS hx hle ⊢
        cases hx
        refine GW.eqs (st' := [.int w9]) rfl ?_
        refine g_if_eq C 38 d_N_fits_19 (by decide) (fun hc10 => ?_) (fun hc10 => ?_)
        · rw [if_pos hc10] at hF hS
          refine g_iconst (v := 0) C d_N_fits_38 (by decide) ?_
          exact c_zret (M := M) C hr hlocks hle (by decide) d_N_fits_39 (by rw [← hF]; exact ⟨rfl, rfl⟩)
        · rw [if_neg hc10] at hF hS
          refine g_aload_n C d_N_fits_22 rfl ?_
          obtain ⟨ho11, hS⟩ := hS
          refine c_getq C hE.1 (ci := 0) i_N rfl 0 (by decide) (by decide) (by decide) kf_N_10 d_N_fits_23 ho11 ?_
          refine g_iload_n C d_N_fits_26 rfl ?_
          refine g_iload_n C d_N_fits_27 rfl ?_
          obtain ⟨ho12, hS⟩ := hS
          refine GW.known3 (a := (cQ M a0 0).getD 0) (cOq.at ho12).1 ?_
          obtain ⟨hs13, hS⟩ := hS
          refine c_call (av := [.ref ((cQ M a0 0).getD 0), .int x1, .int x2]) (rest := []) C hE (fun _ h => h.elim) ⟨rfl, rfl⟩ hle (cc_Ty_suits l hf D cs B dE lim _ ((cQ M a0 0).getD 0) x1 x2 hs13) (fun _ h => h.elim) kd_Ty_suits ki_Ty (Nat.le_of_ble_eq_true rfl) (Nat.le_of_ble_eq_true rfl) d_N_fits_28 (Nat.le_of_ble_eq_true rfl) (c_fV (n := 2) (ci := 1) C hE.1 rfl km_N_222 kv_Ty_suits kl_Ty_suits kd_Ty_suits ⟨by decide, by decide, by decide⟩ rfl rfl d_N_fits_28 (cOq.at ho12).2) (fun v1 M1 hv hle => ?_) (fun E1 M1 hv hle => ?_)
          · rw [mbind_eq] at hF hS
            obtain ⟨hx, hM1⟩ := hv
            have hM2 := hM1.symm
            subst hM2
            generalize hq_w14 : F_Ty_suits cs M ((cQ M a0 0).getD 0) x1 x2 = w14 at hF hS hx hle ⊢
            cases hx
            refine GW.eqs (st' := [.int w14]) rfl ?_
            refine g_if_eq C 38 d_N_fits_31 (by decide) (fun hc15 => ?_) (fun hc15 => ?_)
            · rw [if_pos hc15] at hF hS
              refine g_iconst (v := 0) C d_N_fits_38 (by decide) ?_
              exact c_zret (M := M) C hr hlocks hle (by decide) d_N_fits_39 (by rw [← hF]; exact ⟨rfl, rfl⟩)
            · rw [if_neg hc15] at hF hS
              refine g_iconst (v := 1) C d_N_fits_34 (by decide) ?_
              refine g_goto C 39 d_N_fits_35 (by decide) ?_
              exact c_zret (M := M) C hr hlocks hle (by decide) d_N_fits_39 (by rw [← hF]; exact ⟨rfl, rfl⟩)
          · cases hv.1
      · cases hv.1
  · cases hv.1
def F_N_start (cs : Nat → ClassId) (dE : Nat × Nat) (M : gMem) (a0 : Nat) : Nat × gMem := if (cI M ((cQ M a0 6).getD 0) 2) = 0 then ((2, gsk M)) else (mbind (F_Ma_begin cs dE M ((cQ M a0 6).getD 0) ) (fun w7 => (0, w7)))
def S_N_start (cs : Nat → ClassId) (lim : Nat × Nat) (dE : Nat × Nat) (M : gMem) (a0 : Nat) : Prop := (cOk 0 M a0) ∧ ((cOq 8 M (cQ M a0 6)) ∧ (if (cI M ((cQ M a0 6).getD 0) 2) = 0 then ((M.2.1 + 1 ≤ lim.1 ∧ M.2.2 + 6 ≤ lim.2) ∧ (True)) else ((cOk 0 M a0) ∧ ((cOq 8 M (cQ M a0 6)) ∧ ((S_Ma_begin cs lim dE M ((cQ M a0 6).getD 0) ) ∧ (mbind (F_Ma_begin cs dE M ((cQ M a0 6).getD 0) ) (fun w7 => True)))))))
set_option maxRecDepth 100000 in
set_option maxHeartbeats 4000000 in
theorem cc_N_start (l : Launch) (hf : l.flags = pinnedFlags ++ [noTraceFlag]) (D : va_G) (cs : Nat → ClassId) (B : Nat) (dE : Nat × Nat) (lim : Nat × Nat) (M : gMem) (a0 : Nat) (hS : S_N_start cs lim dE M a0) : cMet l y_N_start (Cond.code y_N_start c_N_start 1 none) (11) (232) D cs B dE (gA B) lim [.ref a0] M (fun x M' => x = (if (F_N_start cs dE M a0).1 = 0 then .inl none else .inr (exn (F_N_start cs dE M a0).1)) ∧ M' = (F_N_start cs dE M a0).2) := by
  refine cMet.ofW (by decide) (Nat.le_of_ble_eq_true rfl) (lv0 := [(0, .ref a0)]) rfl ?_
  intro p e s m args below meth c C hE hR0 hle hr hlocks hex hn
  generalize hF : F_N_start cs dE M a0 = Fv
  unfold F_N_start at hF
  unfold S_N_start at hS
  refine g_aload_n C d_N_start_0 rfl ?_
  obtain ⟨ho1, hS⟩ := hS
  refine c_getq C hE.1 (ci := 0) i_N rfl 6 (by decide) (by decide) (by decide) kf_N_53 d_N_start_1 ho1 ?_
  obtain ⟨ho2, hS⟩ := hS
  refine GW.known1 (a := (cQ M a0 6).getD 0) (cOq.at ho2).1 ?_
  refine c_getiN C hE.1 (ci := 8) i_Ma rfl 2 (by decide) (by decide) (by decide) (gE_fN hE kf_N_226) d_N_start_4 (cOq.at ho2).2 ?_
  refine g_if_ne C 20 d_N_start_7 (by decide) (fun hc3 => ?_) (fun hc3 => ?_)
  · rw [if_neg hc3] at hF hS
    refine g_aload_n C d_N_start_20 rfl ?_
    obtain ⟨ho4, hS⟩ := hS
    refine c_getq C hE.1 (ci := 0) i_N rfl 6 (by decide) (by decide) (by decide) kf_N_53 d_N_start_21 ho4 ?_
    refine GW.more (A' := gA B) (fun _ h => h.elim) ?_
    obtain ⟨ho5, hS⟩ := hS
    refine GW.known1 (a := (cQ M a0 6).getD 0) (cOq.at ho5).1 ?_
    obtain ⟨hs6, hS⟩ := hS
    refine c_call (av := [.ref ((cQ M a0 6).getD 0)]) (rest := []) C hE (fun _ h => h) ⟨rfl, rfl⟩ hle (cc_Ma_begin l hf D cs B dE lim _ ((cQ M a0 6).getD 0)  hs6) (fun _ h => h) kd_Ma_begin ki_Ma (Nat.le_of_ble_eq_true rfl) (Nat.le_of_ble_eq_true rfl) d_N_start_24 (Nat.le_of_ble_eq_true rfl) (c_fV (n := 0) (ci := 8) C hE.1 rfl km_N_232 kv_Ma_begin kl_Ma_begin kd_Ma_begin ⟨by decide, by decide, by decide⟩ rfl rfl d_N_start_24 (cOq.at ho5).2) (fun v1 M1 hv hle => ?_) (fun E1 M1 hv hle => ?_)
    · rw [mbind_eq] at hF hS
      obtain ⟨hx, hM1⟩ := hv
      have hM2 := hM1.symm
      subst hM2
      generalize hq_w7 : F_Ma_begin cs dE M ((cQ M a0 6).getD 0)  = w7 at hF hS hx hle ⊢
      cases hx
      refine GW.eqs (st' := []) rfl ?_
      exact c_vret (M := w7) C hr hlocks hle d_N_start_27 (by rw [← hF]; exact ⟨(if_pos rfl).symm, rfl⟩)
    · cases hv.1
  · rw [if_pos hc3] at hF hS
    obtain ⟨hl8, hS⟩ := hS
    exact c_throw C hf hex hlocks hR0 hl8 (gAts_of C hE (by decide +kernel) (by decide +kernel) ats_Sx) (gE_st hE kq_N_230) kc_N_90 kn_Sx ki_Sx ⟨rfl, rfl⟩ d_N_start_10 d_N_start_13 d_N_start_14 d_N_start_16 d_N_start_19 (Nat.le_of_ble_eq_true rfl) (Nat.le_of_ble_eq_true rfl) (by rw [← hF]; exact ⟨rfl, rfl⟩)
def F_N_run (cs : Nat → ClassId) (dE : Nat × Nat) (n : Nat) (M : gMem) (a0 : Nat) (x1 : Int32) : Nat × Int32 × gMem := if (cI M ((cQ M a0 6).getD 0) 4) = 0 then ((2, 0, gsk M)) else (if x1 < 0 then ((3, 0, gsk M)) else (if x1 ≤ 200 then (mbind (F_Ma_goOnFor cs dE n M ((cQ M a0 6).getD 0) x1) (fun w10 => (0, w10.1, w10.2))) else ((3, 0, gsk M))))
def S_N_run (cs : Nat → ClassId) (lim : Nat × Nat) (dE : Nat × Nat) (n : Nat) (M : gMem) (a0 : Nat) (x1 : Int32) : Prop := (cOk 0 M a0) ∧ ((cOq 8 M (cQ M a0 6)) ∧ (if (cI M ((cQ M a0 6).getD 0) 4) = 0 then ((M.2.1 + 1 ≤ lim.1 ∧ M.2.2 + 6 ≤ lim.2) ∧ (True)) else (if x1 < 0 then ((M.2.1 + 1 ≤ lim.1 ∧ M.2.2 + 6 ≤ lim.2) ∧ (True)) else (if x1 ≤ 200 then ((cOk 0 M a0) ∧ ((cOq 8 M (cQ M a0 6)) ∧ ((S_Ma_goOnFor cs lim dE n M ((cQ M a0 6).getD 0) x1) ∧ (mbind (F_Ma_goOnFor cs dE n M ((cQ M a0 6).getD 0) x1) (fun w10 => True))))) else ((M.2.1 + 1 ≤ lim.1 ∧ M.2.2 + 6 ≤ lim.2) ∧ (True))))))
set_option maxRecDepth 100000 in
set_option maxHeartbeats 4000000 in
theorem cc_N_run (l : Launch) (hf : l.flags = pinnedFlags ++ [noTraceFlag]) (D : va_G) (cs : Nat → ClassId) (B : Nat) (dE : Nat × Nat) (lim : Nat × Nat) (n : Nat) (M : gMem) (a0 : Nat) (x1 : Int32) (hS : S_N_run cs lim dE n M a0 x1) : cMet l y_N_run (Cond.code y_N_run c_N_run 2 (some .int)) (14) (310) D cs B dE (gA B) lim [.ref a0, .int x1] M (fun x M' => x = (if (F_N_run cs dE n M a0 x1).1 = 0 then .inl (some (.int ((F_N_run cs dE n M a0 x1).2.1))) else .inr (exn (F_N_run cs dE n M a0 x1).1)) ∧ M' = (F_N_run cs dE n M a0 x1).2.2) := by
  refine cMet.ofW (by decide) (Nat.le_of_ble_eq_true rfl) (lv0 := [(0, .ref a0), (1, .int x1)]) rfl ?_
  intro p e s m args below meth c C hE hR0 hle hr hlocks hex hn
  generalize hF : F_N_run cs dE n M a0 x1 = Fv
  unfold F_N_run at hF
  unfold S_N_run at hS
  refine g_aload_n C d_N_run_0 rfl ?_
  obtain ⟨ho1, hS⟩ := hS
  refine c_getq C hE.1 (ci := 0) i_N rfl 6 (by decide) (by decide) (by decide) kf_N_53 d_N_run_1 ho1 ?_
  obtain ⟨ho2, hS⟩ := hS
  refine GW.known1 (a := (cQ M a0 6).getD 0) (cOq.at ho2).1 ?_
  refine c_getiN C hE.1 (ci := 8) i_Ma rfl 4 (by decide) (by decide) (by decide) (gE_fN hE kf_N_235) d_N_run_4 (cOq.at ho2).2 ?_
  refine g_if_ne C 20 d_N_run_7 (by decide) (fun hc3 => ?_) (fun hc3 => ?_)
  · rw [if_neg hc3] at hF hS
    refine g_iload_n C d_N_run_20 rfl ?_
    refine g_if_lt C 31 d_N_run_21 (by decide) (fun hc4 => ?_) (fun hc4 => ?_)
    · rw [if_pos hc4] at hF hS
      obtain ⟨hl5, hS⟩ := hS
      exact c_throw C hf hex hlocks hR0 hl5 (gAts_of C hE (by decide +kernel) (by decide +kernel) ats_Ax) (gE_st hE kq_N_240) kc_N_189 kn_Ax ki_Ax ⟨rfl, rfl⟩ d_N_run_31 d_N_run_34 d_N_run_35 d_N_run_37 d_N_run_40 (Nat.le_of_ble_eq_true rfl) (Nat.le_of_ble_eq_true rfl) (by rw [← hF]; exact ⟨rfl, rfl⟩)
    · rw [if_neg hc4] at hF hS
      refine g_iload_n C d_N_run_24 rfl ?_
      refine g_sipush (v := 200) C d_N_run_25 (by decide) ?_
      refine g_icmp_le C 41 d_N_run_28 (by decide) (fun hc6 => ?_) (fun hc6 => ?_)
      · rw [if_pos hc6] at hF hS
        refine g_aload_n C d_N_run_41 rfl ?_
        obtain ⟨ho7, hS⟩ := hS
        refine c_getq C hE.1 (ci := 0) i_N rfl 6 (by decide) (by decide) (by decide) kf_N_53 d_N_run_42 ho7 ?_
        refine g_iload_n C d_N_run_45 rfl ?_
        refine GW.more (A' := gA B) (fun _ h => h.elim) ?_
        obtain ⟨ho8, hS⟩ := hS
        refine GW.known2 (a := (cQ M a0 6).getD 0) (cOq.at ho8).1 ?_
        obtain ⟨hs9, hS⟩ := hS
        refine c_call (av := [.ref ((cQ M a0 6).getD 0), .int x1]) (rest := []) C hE (fun _ h => h) ⟨rfl, rfl⟩ hle (cc_Ma_goOnFor l hf D cs B dE lim n _ ((cQ M a0 6).getD 0) x1 hs9) (fun _ h => h) kd_Ma_goOnFor ki_Ma (Nat.le_of_ble_eq_true rfl) (Nat.le_of_ble_eq_true rfl) d_N_run_46 (Nat.le_of_ble_eq_true rfl) (c_fV (n := 1) (ci := 8) C hE.1 rfl km_N_242 kv_Ma_goOnFor kl_Ma_goOnFor kd_Ma_goOnFor ⟨by decide, by decide, by decide⟩ rfl rfl d_N_run_46 (cOq.at ho8).2) (fun v1 M1 hv hle => ?_) (fun E1 M1 hv hle => ?_)
        · rw [mbind_eq] at hF hS
          obtain ⟨hx, hM1⟩ := hv
          have hM2 := hM1.symm
          subst hM2
          generalize hq_w10 : F_Ma_goOnFor cs dE n M ((cQ M a0 6).getD 0) x1 = w10 at hF hS hx hle ⊢
          cases hx
          refine GW.eqs (st' := [.int w10.1]) rfl ?_
          exact c_iret (M := w10.2) C hr hlocks hle d_N_run_49 (by rw [← hF]; exact ⟨(if_pos rfl).symm, rfl⟩)
        · cases hv.1
      · rw [if_neg hc6] at hF hS
        obtain ⟨hl11, hS⟩ := hS
        exact c_throw C hf hex hlocks hR0 hl11 (gAts_of C hE (by decide +kernel) (by decide +kernel) ats_Ax) (gE_st hE kq_N_240) kc_N_189 kn_Ax ki_Ax ⟨rfl, rfl⟩ d_N_run_31 d_N_run_34 d_N_run_35 d_N_run_37 d_N_run_40 (Nat.le_of_ble_eq_true rfl) (Nat.le_of_ble_eq_true rfl) (by rw [← hF]; exact ⟨rfl, rfl⟩)
  · rw [if_pos hc3] at hF hS
    obtain ⟨hl12, hS⟩ := hS
    exact c_throw C hf hex hlocks hR0 hl12 (gAts_of C hE (by decide +kernel) (by decide +kernel) ats_Sx) (gE_st hE kq_N_238) kc_N_90 kn_Sx ki_Sx ⟨rfl, rfl⟩ d_N_run_10 d_N_run_13 d_N_run_14 d_N_run_16 d_N_run_19 (Nat.le_of_ble_eq_true rfl) (Nat.le_of_ble_eq_true rfl) (by rw [← hF]; exact ⟨rfl, rfl⟩)
def F_N_state (cs : Nat → ClassId) (M : gMem) (a0 : Nat) (x1 : Int32) : Int32 := if x1 = 0 then (cI M ((cQ M a0 6).getD 0) 4) else (if x1 = 1 then (cI M ((cQ M a0 6).getD 0) 5) else (if x1 = 2 then (cI M ((cQ M a0 6).getD 0) 6) else (if x1 = 3 then (cI M ((cQ M a0 6).getD 0) 7) else (if x1 = 4 then (cI M ((cQ M a0 6).getD 0) 8) else (if x1 = 5 then (cI M ((cQ M a0 6).getD 0) 9) else ((-1)))))))
def S_N_state (cs : Nat → ClassId) (lim : Nat × Nat) (M : gMem) (a0 : Nat) (x1 : Int32) : Prop := if x1 = 0 then ((cOk 0 M a0) ∧ ((cOq 8 M (cQ M a0 6)) ∧ (True))) else (if x1 = 1 then ((cOk 0 M a0) ∧ ((cOq 8 M (cQ M a0 6)) ∧ (True))) else (if x1 = 2 then ((cOk 0 M a0) ∧ ((cOq 8 M (cQ M a0 6)) ∧ (True))) else (if x1 = 3 then ((cOk 0 M a0) ∧ ((cOq 8 M (cQ M a0 6)) ∧ (True))) else (if x1 = 4 then ((cOk 0 M a0) ∧ ((cOq 8 M (cQ M a0 6)) ∧ (True))) else (if x1 = 5 then ((cOk 0 M a0) ∧ ((cOq 8 M (cQ M a0 6)) ∧ (True))) else (True))))))
set_option maxRecDepth 100000 in
set_option maxHeartbeats 4000000 in
theorem cc_N_state (l : Launch) (hf : l.flags = pinnedFlags ++ [noTraceFlag]) (D : va_G) (cs : Nat → ClassId) (B : Nat) (dE : Nat × Nat) (lim : Nat × Nat) (M : gMem) (a0 : Nat) (x1 : Int32) (hS : S_N_state cs lim M a0 x1) : cMet l y_N_state (Cond.code y_N_state c_N_state 2 (some .int)) (0) (0) D cs B dE (fun _ => False) lim [.ref a0, .int x1] M (fun x M' => x = .inl (some (.int (F_N_state cs M a0 x1))) ∧ M' = M) := by
  refine cMet.ofW (by decide) (Nat.le_of_ble_eq_true rfl) (lv0 := [(0, .ref a0), (1, .int x1)]) rfl ?_
  intro p e s m args below meth c C hE hR0 hle hr hlocks hex hn
  generalize hF : F_N_state cs M a0 x1 = Fv
  unfold F_N_state at hF
  unfold S_N_state at hS
  refine g_iload_n C d_N_state_0 rfl ?_
  by_cases hc1 : x1 = 0
  · rw [if_pos hc1] at hF hS
    refine g_tableIn C 40 d_N_state_1 (by rw [hc1]; decide) (by rw [hc1]; decide) (by rw [hc1]; rfl) (by decide) ?_
    refine g_aload_n C d_N_state_40 rfl ?_
    obtain ⟨ho2, hS⟩ := hS
    refine c_getq C hE.1 (ci := 0) i_N rfl 6 (by decide) (by decide) (by decide) kf_N_53 d_N_state_41 ho2 ?_
    obtain ⟨ho3, hS⟩ := hS
    refine GW.known1 (a := (cQ M a0 6).getD 0) (cOq.at ho3).1 ?_
    refine c_getiN C hE.1 (ci := 8) i_Ma rfl 4 (by decide) (by decide) (by decide) (gE_fN hE kf_N_235) d_N_state_44 (cOq.at ho3).2 ?_
    exact c_iret (M := M) C hr hlocks hle d_N_state_47 (by rw [← hF]; exact ⟨rfl, rfl⟩)
  · rw [if_neg hc1] at hF hS
    by_cases hc4 : x1 = 1
    · rw [if_pos hc4] at hF hS
      refine g_tableIn C 48 d_N_state_1 (by rw [hc4]; decide) (by rw [hc4]; decide) (by rw [hc4]; rfl) (by decide) ?_
      refine g_aload_n C d_N_state_48 rfl ?_
      obtain ⟨ho5, hS⟩ := hS
      refine c_getq C hE.1 (ci := 0) i_N rfl 6 (by decide) (by decide) (by decide) kf_N_53 d_N_state_49 ho5 ?_
      obtain ⟨ho6, hS⟩ := hS
      refine GW.known1 (a := (cQ M a0 6).getD 0) (cOq.at ho6).1 ?_
      refine c_getiN C hE.1 (ci := 8) i_Ma rfl 5 (by decide) (by decide) (by decide) (gE_fN hE kf_N_245) d_N_state_52 (cOq.at ho6).2 ?_
      exact c_iret (M := M) C hr hlocks hle d_N_state_55 (by rw [← hF]; exact ⟨rfl, rfl⟩)
    · rw [if_neg hc4] at hF hS
      by_cases hc7 : x1 = 2
      · rw [if_pos hc7] at hF hS
        refine g_tableIn C 56 d_N_state_1 (by rw [hc7]; decide) (by rw [hc7]; decide) (by rw [hc7]; rfl) (by decide) ?_
        refine g_aload_n C d_N_state_56 rfl ?_
        obtain ⟨ho8, hS⟩ := hS
        refine c_getq C hE.1 (ci := 0) i_N rfl 6 (by decide) (by decide) (by decide) kf_N_53 d_N_state_57 ho8 ?_
        obtain ⟨ho9, hS⟩ := hS
        refine GW.known1 (a := (cQ M a0 6).getD 0) (cOq.at ho9).1 ?_
        refine c_getiN C hE.1 (ci := 8) i_Ma rfl 6 (by decide) (by decide) (by decide) (gE_fN hE kf_N_246) d_N_state_60 (cOq.at ho9).2 ?_
        exact c_iret (M := M) C hr hlocks hle d_N_state_63 (by rw [← hF]; exact ⟨rfl, rfl⟩)
      · rw [if_neg hc7] at hF hS
        by_cases hc10 : x1 = 3
        · rw [if_pos hc10] at hF hS
          refine g_tableIn C 64 d_N_state_1 (by rw [hc10]; decide) (by rw [hc10]; decide) (by rw [hc10]; rfl) (by decide) ?_
          refine g_aload_n C d_N_state_64 rfl ?_
          obtain ⟨ho11, hS⟩ := hS
          refine c_getq C hE.1 (ci := 0) i_N rfl 6 (by decide) (by decide) (by decide) kf_N_53 d_N_state_65 ho11 ?_
          obtain ⟨ho12, hS⟩ := hS
          refine GW.known1 (a := (cQ M a0 6).getD 0) (cOq.at ho12).1 ?_
          refine c_getiN C hE.1 (ci := 8) i_Ma rfl 7 (by decide) (by decide) (by decide) (gE_fN hE kf_N_249) d_N_state_68 (cOq.at ho12).2 ?_
          exact c_iret (M := M) C hr hlocks hle d_N_state_71 (by rw [← hF]; exact ⟨rfl, rfl⟩)
        · rw [if_neg hc10] at hF hS
          by_cases hc13 : x1 = 4
          · rw [if_pos hc13] at hF hS
            refine g_tableIn C 72 d_N_state_1 (by rw [hc13]; decide) (by rw [hc13]; decide) (by rw [hc13]; rfl) (by decide) ?_
            refine g_aload_n C d_N_state_72 rfl ?_
            obtain ⟨ho14, hS⟩ := hS
            refine c_getq C hE.1 (ci := 0) i_N rfl 6 (by decide) (by decide) (by decide) kf_N_53 d_N_state_73 ho14 ?_
            obtain ⟨ho15, hS⟩ := hS
            refine GW.known1 (a := (cQ M a0 6).getD 0) (cOq.at ho15).1 ?_
            refine c_getiN C hE.1 (ci := 8) i_Ma rfl 8 (by decide) (by decide) (by decide) (gE_fN hE kf_N_252) d_N_state_76 (cOq.at ho15).2 ?_
            exact c_iret (M := M) C hr hlocks hle d_N_state_79 (by rw [← hF]; exact ⟨rfl, rfl⟩)
          · rw [if_neg hc13] at hF hS
            by_cases hc16 : x1 = 5
            · rw [if_pos hc16] at hF hS
              refine g_tableIn C 80 d_N_state_1 (by rw [hc16]; decide) (by rw [hc16]; decide) (by rw [hc16]; rfl) (by decide) ?_
              refine g_aload_n C d_N_state_80 rfl ?_
              obtain ⟨ho17, hS⟩ := hS
              refine c_getq C hE.1 (ci := 0) i_N rfl 6 (by decide) (by decide) (by decide) kf_N_53 d_N_state_81 ho17 ?_
              obtain ⟨ho18, hS⟩ := hS
              refine GW.known1 (a := (cQ M a0 6).getD 0) (cOq.at ho18).1 ?_
              refine c_getiN C hE.1 (ci := 8) i_Ma rfl 9 (by decide) (by decide) (by decide) (gE_fN hE kf_N_255) d_N_state_84 (cOq.at ho18).2 ?_
              exact c_iret (M := M) C hr hlocks hle d_N_state_87 (by rw [← hF]; exact ⟨rfl, rfl⟩)
            · rw [if_neg hc16] at hF hS
              refine g_tableOut C 88 d_N_state_1 (by have := lv_neT hc1 (show (0 : Int32).toInt = 0 by decide); have := lv_neT hc4 (show (1 : Int32).toInt = 1 by decide); have := lv_neT hc7 (show (2 : Int32).toInt = 2 by decide); have := lv_neT hc10 (show (3 : Int32).toInt = 3 by decide); have := lv_neT hc13 (show (4 : Int32).toInt = 4 by decide); have := lv_neT hc16 (show (5 : Int32).toInt = 5 by decide); omega) (by decide) ?_
              refine g_iconst (v := (-1)) C d_N_state_88 (by decide) ?_
              exact c_iret (M := M) C hr hlocks hle d_N_state_89 (by rw [← hF]; exact ⟨rfl, rfl⟩)

