def F_Ma_work (cs : Nat → ClassId) (dE : Nat × Nat) (n : Nat) (M : gMem) (a0 : Nat) (x1 : Option Nat) (x2 : Int32) : gMem := mbind (F_Co_field cs M ((cQ M a0 0).getD 0) x2 1) (fun w4 => mbind (F_Co_operation cs (cP 10 M (x1.getD 0) 2 (.int (x2 + 1))) ((cQ (cP 10 M (x1.getD 0) 2 (.int (x2 + 1))) a0 0).getD 0) x2) (fun w9 => if w9 = 1 then (mbind (F_Fr_push cs (cP 10 M (x1.getD 0) 2 (.int (x2 + 1))) (x1.getD 0) w4) (fun w13 => w13)) else (if w9 = 2 then (mbind (F_Fr_valueOf cs (cP 10 M (x1.getD 0) 2 (.int (x2 + 1))) (x1.getD 0) w4) (fun w17 => mbind (F_Fr_push cs (cP 10 M (x1.getD 0) 2 (.int (x2 + 1))) (x1.getD 0) w17) (fun w20 => w20))) else (if w9 = 3 then (mbind (F_Ma_bind cs (cP 10 M (x1.getD 0) 2 (.int (x2 + 1))) a0 x1 w4) (fun w24 => w24)) else (if w9 = 4 then (mbind (F_Ma_unbind cs (cP 10 M (x1.getD 0) 2 (.int (x2 + 1))) a0 x1 w4) (fun w28 => w28)) else (if w9 = 5 then (cP 10 (cP 10 M (x1.getD 0) 2 (.int (x2 + 1))) (x1.getD 0) 2 (.int w4)) else (if w9 = 6 then (mbind (F_Fr_pop cs (cP 10 M (x1.getD 0) 2 (.int (x2 + 1))) (x1.getD 0) ) (fun w34 => if w34.1 = 0 then (cP 10 w34.2 (x1.getD 0) 2 (.int w4)) else (cP 10 w34.2 (x1.getD 0) 2 (.int (x2 + 1))))) else (if w9 = 7 then (mbind (F_Ma_combine cs (cP 10 M (x1.getD 0) 2 (.int (x2 + 1))) a0 x1 w4) (fun w41 => w41)) else (if w9 = 8 then (mbind (F_Ma_close cs dE (cP 10 M (x1.getD 0) 2 (.int (x2 + 1))) a0 x1 x2) (fun w45 => w45)) else (if w9 = 9 then (mbind (F_Ma_install cs dE (cP 10 M (x1.getD 0) 2 (.int (x2 + 1))) a0 x1 x2) (fun w49 => w49)) else (if w9 = 10 then (mbind (F_Ma_end cs (cP 10 M (x1.getD 0) 2 (.int (x2 + 1))) a0 x1) (fun w53 => w53)) else (if w9 = 11 then (mbind (F_Ma_endBody cs (cP 10 M (x1.getD 0) 2 (.int (x2 + 1))) a0 x1) (fun w57 => w57)) else (if w9 = 12 then (mbind (F_Ma_apply cs dE (cP 10 M (x1.getD 0) 2 (.int (x2 + 1))) a0 x1 x2) (fun w61 => w61)) else (if w9 = 13 then (mbind (F_Ma_raise cs dE n (cP 10 M (x1.getD 0) 2 (.int (x2 + 1))) a0 x1 x2 w4) (fun w65 => w65)) else (mbind (F_Ma_end cs (cP 10 M (x1.getD 0) 2 (.int (x2 + 1))) a0 x1) (fun w68 => w68))))))))))))))))
def S_Ma_work (cs : Nat → ClassId) (lim : Nat × Nat) (dE : Nat × Nat) (n : Nat) (M : gMem) (a0 : Nat) (x1 : Option Nat) (x2 : Int32) : Prop := (cOk 8 M a0) ∧ ((cOq 7 M (cQ M a0 0)) ∧ ((S_Co_field cs lim M ((cQ M a0 0).getD 0) x2 1) ∧ (mbind (F_Co_field cs M ((cQ M a0 0).getD 0) x2 1) (fun w4 => (cOq 10 M x1) ∧ ((cOk 8 (cP 10 M (x1.getD 0) 2 (.int (x2 + 1))) a0) ∧ ((cOq 7 (cP 10 M (x1.getD 0) 2 (.int (x2 + 1))) (cQ (cP 10 M (x1.getD 0) 2 (.int (x2 + 1))) a0 0)) ∧ ((S_Co_operation cs lim (cP 10 M (x1.getD 0) 2 (.int (x2 + 1))) ((cQ (cP 10 M (x1.getD 0) 2 (.int (x2 + 1))) a0 0).getD 0) x2) ∧ (mbind (F_Co_operation cs (cP 10 M (x1.getD 0) 2 (.int (x2 + 1))) ((cQ (cP 10 M (x1.getD 0) 2 (.int (x2 + 1))) a0 0).getD 0) x2) (fun w9 => if w9 = 1 then ((cOq 10 (cP 10 M (x1.getD 0) 2 (.int (x2 + 1))) x1) ∧ ((S_Fr_push cs lim (cP 10 M (x1.getD 0) 2 (.int (x2 + 1))) (x1.getD 0) w4) ∧ (mbind (F_Fr_push cs (cP 10 M (x1.getD 0) 2 (.int (x2 + 1))) (x1.getD 0) w4) (fun w13 => True)))) else (if w9 = 2 then ((cOq 10 (cP 10 M (x1.getD 0) 2 (.int (x2 + 1))) x1) ∧ ((S_Fr_valueOf cs lim (cP 10 M (x1.getD 0) 2 (.int (x2 + 1))) (x1.getD 0) w4) ∧ (mbind (F_Fr_valueOf cs (cP 10 M (x1.getD 0) 2 (.int (x2 + 1))) (x1.getD 0) w4) (fun w17 => (cOq 10 (cP 10 M (x1.getD 0) 2 (.int (x2 + 1))) x1) ∧ ((S_Fr_push cs lim (cP 10 M (x1.getD 0) 2 (.int (x2 + 1))) (x1.getD 0) w17) ∧ (mbind (F_Fr_push cs (cP 10 M (x1.getD 0) 2 (.int (x2 + 1))) (x1.getD 0) w17) (fun w20 => True))))))) else (if w9 = 3 then ((cOk 8 (cP 10 M (x1.getD 0) 2 (.int (x2 + 1))) a0) ∧ ((S_Ma_bind cs lim (cP 10 M (x1.getD 0) 2 (.int (x2 + 1))) a0 x1 w4) ∧ (mbind (F_Ma_bind cs (cP 10 M (x1.getD 0) 2 (.int (x2 + 1))) a0 x1 w4) (fun w24 => True)))) else (if w9 = 4 then ((cOk 8 (cP 10 M (x1.getD 0) 2 (.int (x2 + 1))) a0) ∧ ((S_Ma_unbind cs lim (cP 10 M (x1.getD 0) 2 (.int (x2 + 1))) a0 x1 w4) ∧ (mbind (F_Ma_unbind cs (cP 10 M (x1.getD 0) 2 (.int (x2 + 1))) a0 x1 w4) (fun w28 => True)))) else (if w9 = 5 then ((cOq 10 (cP 10 M (x1.getD 0) 2 (.int (x2 + 1))) x1) ∧ (True)) else (if w9 = 6 then ((cOq 10 (cP 10 M (x1.getD 0) 2 (.int (x2 + 1))) x1) ∧ ((S_Fr_pop cs lim (cP 10 M (x1.getD 0) 2 (.int (x2 + 1))) (x1.getD 0) ) ∧ (mbind (F_Fr_pop cs (cP 10 M (x1.getD 0) 2 (.int (x2 + 1))) (x1.getD 0) ) (fun w34 => if w34.1 = 0 then ((cOq 10 w34.2 x1) ∧ (True)) else ((cOq 10 w34.2 x1) ∧ (True)))))) else (if w9 = 7 then ((cOk 8 (cP 10 M (x1.getD 0) 2 (.int (x2 + 1))) a0) ∧ ((S_Ma_combine cs lim (cP 10 M (x1.getD 0) 2 (.int (x2 + 1))) a0 x1 w4) ∧ (mbind (F_Ma_combine cs (cP 10 M (x1.getD 0) 2 (.int (x2 + 1))) a0 x1 w4) (fun w41 => True)))) else (if w9 = 8 then ((cOk 8 (cP 10 M (x1.getD 0) 2 (.int (x2 + 1))) a0) ∧ ((S_Ma_close cs lim dE (cP 10 M (x1.getD 0) 2 (.int (x2 + 1))) a0 x1 x2) ∧ (mbind (F_Ma_close cs dE (cP 10 M (x1.getD 0) 2 (.int (x2 + 1))) a0 x1 x2) (fun w45 => True)))) else (if w9 = 9 then ((cOk 8 (cP 10 M (x1.getD 0) 2 (.int (x2 + 1))) a0) ∧ ((S_Ma_install cs lim dE (cP 10 M (x1.getD 0) 2 (.int (x2 + 1))) a0 x1 x2) ∧ (mbind (F_Ma_install cs dE (cP 10 M (x1.getD 0) 2 (.int (x2 + 1))) a0 x1 x2) (fun w49 => True)))) else (if w9 = 10 then ((cOk 8 (cP 10 M (x1.getD 0) 2 (.int (x2 + 1))) a0) ∧ ((S_Ma_end cs lim (cP 10 M (x1.getD 0) 2 (.int (x2 + 1))) a0 x1) ∧ (mbind (F_Ma_end cs (cP 10 M (x1.getD 0) 2 (.int (x2 + 1))) a0 x1) (fun w53 => True)))) else (if w9 = 11 then ((cOk 8 (cP 10 M (x1.getD 0) 2 (.int (x2 + 1))) a0) ∧ ((S_Ma_endBody cs lim (cP 10 M (x1.getD 0) 2 (.int (x2 + 1))) a0 x1) ∧ (mbind (F_Ma_endBody cs (cP 10 M (x1.getD 0) 2 (.int (x2 + 1))) a0 x1) (fun w57 => True)))) else (if w9 = 12 then ((cOk 8 (cP 10 M (x1.getD 0) 2 (.int (x2 + 1))) a0) ∧ ((S_Ma_apply cs lim dE (cP 10 M (x1.getD 0) 2 (.int (x2 + 1))) a0 x1 x2) ∧ (mbind (F_Ma_apply cs dE (cP 10 M (x1.getD 0) 2 (.int (x2 + 1))) a0 x1 x2) (fun w61 => True)))) else (if w9 = 13 then ((cOk 8 (cP 10 M (x1.getD 0) 2 (.int (x2 + 1))) a0) ∧ ((S_Ma_raise cs lim dE n (cP 10 M (x1.getD 0) 2 (.int (x2 + 1))) a0 x1 x2 w4) ∧ (mbind (F_Ma_raise cs dE n (cP 10 M (x1.getD 0) 2 (.int (x2 + 1))) a0 x1 x2 w4) (fun w65 => True)))) else ((cOk 8 (cP 10 M (x1.getD 0) 2 (.int (x2 + 1))) a0) ∧ ((S_Ma_end cs lim (cP 10 M (x1.getD 0) 2 (.int (x2 + 1))) a0 x1) ∧ (mbind (F_Ma_end cs (cP 10 M (x1.getD 0) 2 (.int (x2 + 1))) a0 x1) (fun w68 => True)))))))))))))))))))))))))
set_option maxRecDepth 100000 in
set_option maxHeartbeats 4000000 in
theorem cc_Ma_work (l : Launch) (hf : l.flags = pinnedFlags ++ [noTraceFlag]) (D : va_G) (cs : Nat → ClassId) (B : Nat) (dE : Nat × Nat) (lim : Nat × Nat) (n : Nat) (M : gMem) (a0 : Nat) (x1 : Option Nat) (x2 : Int32) (hS : S_Ma_work cs lim dE n M a0 x1 x2) : cMet l y_Ma_work (Cond.code y_Ma_work c_Ma_work 4 none) (12) (265) D cs B dE (gA B) lim [.ref a0, va_rf x1, .int x2] M (fun x M' => x = .inl none ∧ M' = (F_Ma_work cs dE n M a0 x1 x2)) := by
  refine cMet.ofW (by decide) (by cases x1 <;> exact Nat.le_of_ble_eq_true rfl) (lv0 := [(0, .ref a0), (1, va_rf x1), (2, .int x2)]) (by cases x1 <;> rfl) ?_
  intro p e s m args below meth c C hE hR0 hle hr hlocks hex hn
  generalize hF : F_Ma_work cs dE n M a0 x1 x2 = Fv
  unfold F_Ma_work at hF
  unfold S_Ma_work at hS
  refine g_aload_n C d_Ma_work_0 rfl ?_
  obtain ⟨ho1, hS⟩ := hS
  refine c_getq C hE.1 (ci := 8) i_Ma rfl 0 (by decide) (by decide) (by decide) kf_Ma_18 d_Ma_work_1 ho1 ?_
  refine g_iload_n C d_Ma_work_4 rfl ?_
  refine g_iconst (v := 1) C d_Ma_work_5 (by decide) ?_
  obtain ⟨ho2, hS⟩ := hS
  refine GW.known3 (a := (cQ M a0 0).getD 0) (cOq.at ho2).1 ?_
  obtain ⟨hs3, hS⟩ := hS
  refine c_call (av := [.ref ((cQ M a0 0).getD 0), .int x2, .int 1]) (rest := []) C hE (fun _ h => h.elim) ⟨rfl, rfl⟩ hle (cc_Co_field l hf D cs B dE lim _ ((cQ M a0 0).getD 0) x2 1 hs3) (fun _ h => h.elim) kd_Co_field ki_Co (Nat.le_of_ble_eq_true rfl) (Nat.le_of_ble_eq_true rfl) d_Ma_work_6 (Nat.le_of_ble_eq_true rfl) (c_fV (n := 2) (ci := 7) C hE.1 rfl km_Ma_86 kv_Co_field kl_Co_field kd_Co_field ⟨by decide, by decide, by decide⟩ rfl rfl d_Ma_work_6 (cOq.at ho2).2) (fun v1 M1 hv hle => ?_) (fun E1 M1 hv hle => ?_)
  · rw [mbind_eq] at hF hS
    obtain ⟨hx, hM1⟩ := hv
    have hM2 := hM1.symm
    subst hM2
    generalize hq_w4 : F_Co_field cs M ((cQ M a0 0).getD 0) x2 1 = w4 at hF hS hx hle ⊢
    cases hx
    refine GW.eqs (st' := [.int w4]) rfl ?_
    refine g_istore_n (lv' := [(3, .int w4), (0, .ref a0), (1, va_rf x1), (2, .int x2)]) C d_Ma_work_9 (by decide) rfl ?_
    refine q_aload_n (r := x1) C d_Ma_work_10 rfl ?_
    refine g_iload_n C d_Ma_work_11 rfl ?_
    refine g_iconst (v := 1) C d_Ma_work_12 (by decide) ?_
    refine g_iadd C d_Ma_work_13 ?_
    refine GW.more (A' := gA B) (fun _ h => h.elim) ?_
    obtain ⟨ho5, hS⟩ := hS
    refine GW.known2 (a := x1.getD 0) (cOq.at ho5).1 ?_
    refine k_putN (M0 := M) (M := M) C hE.1 (ci := 10) i_Fr rfl 2 (by decide) (by decide) (gE_fN hE kf_Ma_67) t_Fr t_Fr_ok n_Fr rfl (nf_i _) d_Ma_work_14 (cOq.at ho5).2 ?_
    replace hle := cLe.cP (ci := 10) (a := x1.getD 0) (k := 2) (v := .int (x2 + 1)) hle
    refine g_aload_n C d_Ma_work_17 rfl ?_
    obtain ⟨ho6, hS⟩ := hS
    refine c_getq C hE.1 (ci := 8) i_Ma rfl 0 (by decide) (by decide) (by decide) kf_Ma_18 d_Ma_work_18 ho6 ?_
    refine g_iload_n C d_Ma_work_21 rfl ?_
    obtain ⟨ho7, hS⟩ := hS
    refine GW.known2 (a := (cQ (cP 10 M (x1.getD 0) 2 (.int (x2 + 1))) a0 0).getD 0) (cOq.at ho7).1 ?_
    obtain ⟨hs8, hS⟩ := hS
    refine c_call (av := [.ref ((cQ (cP 10 M (x1.getD 0) 2 (.int (x2 + 1))) a0 0).getD 0), .int x2]) (rest := []) C hE (fun _ h => h) ⟨rfl, rfl⟩ hle (cc_Co_operation l hf D cs B dE lim _ ((cQ (cP 10 M (x1.getD 0) 2 (.int (x2 + 1))) a0 0).getD 0) x2 hs8) (fun _ h => h.elim) kd_Co_operation ki_Co (Nat.le_of_ble_eq_true rfl) (Nat.le_of_ble_eq_true rfl) d_Ma_work_22 (Nat.le_of_ble_eq_true rfl) (c_fV (n := 1) (ci := 7) C hE.1 rfl km_Ma_92 kv_Co_operation kl_Co_operation kd_Co_operation ⟨by decide, by decide, by decide⟩ rfl rfl d_Ma_work_22 (cOq.at ho7).2) (fun v1 M1 hv hle => ?_) (fun E1 M1 hv hle => ?_)
    · rw [mbind_eq] at hF hS
      obtain ⟨hx, hM1⟩ := hv
      have hM2 := hM1.symm
      subst hM2
      generalize hq_w9 : F_Co_operation cs (cP 10 M (x1.getD 0) 2 (.int (x2 + 1))) ((cQ (cP 10 M (x1.getD 0) 2 (.int (x2 + 1))) a0 0).getD 0) x2 = w9 at hF hS hx hle ⊢
      cases hx
      refine GW.eqs (st' := [.int w9]) rfl ?_
      by_cases hc10 : w9 = 1
      · rw [if_pos hc10] at hF hS
        refine g_tableIn C 92 d_Ma_work_25 (by rw [hc10]; decide) (by rw [hc10]; decide) (by rw [hc10]; rfl) (by decide) ?_
        refine q_aload_n (r := x1) C d_Ma_work_92 rfl ?_
        refine g_iload_n C d_Ma_work_93 rfl ?_
        obtain ⟨ho11, hS⟩ := hS
        refine GW.known2 (a := x1.getD 0) (cOq.at ho11).1 ?_
        obtain ⟨hs12, hS⟩ := hS
        refine c_call (av := [.ref (x1.getD 0), .int w4]) (rest := []) C hE (fun _ h => h) ⟨rfl, rfl⟩ hle (cc_Fr_push l hf D cs B dE lim _ (x1.getD 0) w4 hs12) (fun _ h => h) kd_Fr_push ki_Fr (Nat.le_of_ble_eq_true rfl) (Nat.le_of_ble_eq_true rfl) d_Ma_work_94 (Nat.le_of_ble_eq_true rfl) (c_fV (n := 1) (ci := 10) C hE.1 rfl km_Ma_96 kv_Fr_push kl_Fr_push kd_Fr_push ⟨by decide, by decide, by decide⟩ rfl rfl d_Ma_work_94 (cOq.at ho11).2) (fun v1 M1 hv hle => ?_) (fun E1 M1 hv hle => ?_)
        · rw [mbind_eq] at hF hS
          obtain ⟨hx, hM1⟩ := hv
          have hM2 := hM1.symm
          subst hM2
          generalize hq_w13 : F_Fr_push cs (cP 10 M (x1.getD 0) 2 (.int (x2 + 1))) (x1.getD 0) w4 = w13 at hF hS hx hle ⊢
          cases hx
          refine GW.eqs (st' := []) rfl ?_
          refine g_goto C 218 d_Ma_work_97 (by decide) ?_
          exact c_vret (M := w13) C hr hlocks hle d_Ma_work_218 (by rw [← hF]; exact ⟨rfl, rfl⟩)
        · cases hv.1
      · rw [if_neg hc10] at hF hS
        by_cases hc14 : w9 = 2
        · rw [if_pos hc14] at hF hS
          refine g_tableIn C 100 d_Ma_work_25 (by rw [hc14]; decide) (by rw [hc14]; decide) (by rw [hc14]; rfl) (by decide) ?_
          refine q_aload_n (r := x1) C d_Ma_work_100 rfl ?_
          refine q_aload_n (r := x1) C d_Ma_work_101 rfl ?_
          refine g_iload_n C d_Ma_work_102 rfl ?_
          obtain ⟨ho15, hS⟩ := hS
          refine GW.known2 (a := x1.getD 0) (cOq.at ho15).1 ?_
          obtain ⟨hs16, hS⟩ := hS
          refine c_call (av := [.ref (x1.getD 0), .int w4]) (rest := [va_rf x1]) C hE (fun _ h => h) ⟨rfl, rfl⟩ hle (cc_Fr_valueOf l hf D cs B dE lim _ (x1.getD 0) w4 hs16) (fun _ h => h.elim) kd_Fr_valueOf ki_Fr (Nat.le_of_ble_eq_true rfl) (Nat.le_of_ble_eq_true rfl) d_Ma_work_103 (by simp only [List.map_cons, List.map_nil, rf_cat, List.sum_cons, List.sum_nil]; exact Nat.le_of_ble_eq_true rfl) (c_fV (n := 1) (ci := 10) C hE.1 rfl km_Ma_100 kv_Fr_valueOf kl_Fr_valueOf kd_Fr_valueOf ⟨by decide, by decide, by decide⟩ rfl rfl d_Ma_work_103 (cOq.at ho15).2) (fun v1 M1 hv hle => ?_) (fun E1 M1 hv hle => ?_)
          · rw [mbind_eq] at hF hS
            obtain ⟨hx, hM1⟩ := hv
            have hM2 := hM1.symm
            subst hM2
            generalize hq_w17 : F_Fr_valueOf cs (cP 10 M (x1.getD 0) 2 (.int (x2 + 1))) (x1.getD 0) w4 = w17 at hF hS hx hle ⊢
            cases hx
            refine GW.eqs (st' := [.int w17, va_rf x1]) rfl ?_
            obtain ⟨ho18, hS⟩ := hS
            refine GW.known2 (a := x1.getD 0) (cOq.at ho18).1 ?_
            obtain ⟨hs19, hS⟩ := hS
            refine c_call (av := [.ref (x1.getD 0), .int w17]) (rest := []) C hE (fun _ h => h) ⟨rfl, rfl⟩ hle (cc_Fr_push l hf D cs B dE lim _ (x1.getD 0) w17 hs19) (fun _ h => h) kd_Fr_push ki_Fr (Nat.le_of_ble_eq_true rfl) (Nat.le_of_ble_eq_true rfl) d_Ma_work_106 (Nat.le_of_ble_eq_true rfl) (c_fV (n := 1) (ci := 10) C hE.1 rfl km_Ma_96 kv_Fr_push kl_Fr_push kd_Fr_push ⟨by decide, by decide, by decide⟩ rfl rfl d_Ma_work_106 (cOq.at ho18).2) (fun v1 M1 hv hle => ?_) (fun E1 M1 hv hle => ?_)
            · rw [mbind_eq] at hF hS
              obtain ⟨hx, hM1⟩ := hv
              have hM2 := hM1.symm
              subst hM2
              generalize hq_w20 : F_Fr_push cs (cP 10 M (x1.getD 0) 2 (.int (x2 + 1))) (x1.getD 0) w17 = w20 at hF hS hx hle ⊢
              cases hx
              refine GW.eqs (st' := []) rfl ?_
              refine g_goto C 218 d_Ma_work_109 (by decide) ?_
              exact c_vret (M := w20) C hr hlocks hle d_Ma_work_218 (by rw [← hF]; exact ⟨rfl, rfl⟩)
            · cases hv.1
          · cases hv.1
        · rw [if_neg hc14] at hF hS
          by_cases hc21 : w9 = 3
          · rw [if_pos hc21] at hF hS
            refine g_tableIn C 112 d_Ma_work_25 (by rw [hc21]; decide) (by rw [hc21]; decide) (by rw [hc21]; rfl) (by decide) ?_
            refine g_aload_n C d_Ma_work_112 rfl ?_
            refine q_aload_n (r := x1) C d_Ma_work_113 rfl ?_
            refine g_iload_n C d_Ma_work_114 rfl ?_
            obtain ⟨ho22, hS⟩ := hS
            obtain ⟨hs23, hS⟩ := hS
            refine c_call (av := [.ref a0, va_rf x1, .int w4]) (rest := []) C hE (fun _ h => h) ⟨rfl, rfl⟩ hle (cc_Ma_bind l hf D cs B dE lim _ a0 x1 w4 hs23) (fun _ h => h) kd_Ma_bind ki_Ma (Nat.le_of_ble_eq_true rfl) (Nat.le_of_ble_eq_true rfl) d_Ma_work_115 (Nat.le_of_ble_eq_true rfl) (c_fV (n := 2) (ci := 8) C hE.1 rfl km_Ma_103 kv_Ma_bind kl_Ma_bind kd_Ma_bind ⟨by decide, by decide, by decide⟩ rfl rfl d_Ma_work_115 ho22) (fun v1 M1 hv hle => ?_) (fun E1 M1 hv hle => ?_)
            · rw [mbind_eq] at hF hS
              obtain ⟨hx, hM1⟩ := hv
              have hM2 := hM1.symm
              subst hM2
              generalize hq_w24 : F_Ma_bind cs (cP 10 M (x1.getD 0) 2 (.int (x2 + 1))) a0 x1 w4 = w24 at hF hS hx hle ⊢
              cases hx
              refine GW.eqs (st' := []) rfl ?_
              refine g_goto C 218 d_Ma_work_118 (by decide) ?_
              exact c_vret (M := w24) C hr hlocks hle d_Ma_work_218 (by rw [← hF]; exact ⟨rfl, rfl⟩)
            · cases hv.1
          · rw [if_neg hc21] at hF hS
            by_cases hc25 : w9 = 4
            · rw [if_pos hc25] at hF hS
              refine g_tableIn C 121 d_Ma_work_25 (by rw [hc25]; decide) (by rw [hc25]; decide) (by rw [hc25]; rfl) (by decide) ?_
              refine g_aload_n C d_Ma_work_121 rfl ?_
              refine q_aload_n (r := x1) C d_Ma_work_122 rfl ?_
              refine g_iload_n C d_Ma_work_123 rfl ?_
              obtain ⟨ho26, hS⟩ := hS
              obtain ⟨hs27, hS⟩ := hS
              refine c_call (av := [.ref a0, va_rf x1, .int w4]) (rest := []) C hE (fun _ h => h) ⟨rfl, rfl⟩ hle (cc_Ma_unbind l hf D cs B dE lim _ a0 x1 w4 hs27) (fun _ h => h) kd_Ma_unbind ki_Ma (Nat.le_of_ble_eq_true rfl) (Nat.le_of_ble_eq_true rfl) d_Ma_work_124 (Nat.le_of_ble_eq_true rfl) (c_fV (n := 2) (ci := 8) C hE.1 rfl km_Ma_106 kv_Ma_unbind kl_Ma_unbind kd_Ma_unbind ⟨by decide, by decide, by decide⟩ rfl rfl d_Ma_work_124 ho26) (fun v1 M1 hv hle => ?_) (fun E1 M1 hv hle => ?_)
              · rw [mbind_eq] at hF hS
                obtain ⟨hx, hM1⟩ := hv
                have hM2 := hM1.symm
                subst hM2
                generalize hq_w28 : F_Ma_unbind cs (cP 10 M (x1.getD 0) 2 (.int (x2 + 1))) a0 x1 w4 = w28 at hF hS hx hle ⊢
                cases hx
                refine GW.eqs (st' := []) rfl ?_
                refine g_goto C 218 d_Ma_work_127 (by decide) ?_
                exact c_vret (M := w28) C hr hlocks hle d_Ma_work_218 (by rw [← hF]; exact ⟨rfl, rfl⟩)
              · cases hv.1
            · rw [if_neg hc25] at hF hS
              by_cases hc29 : w9 = 5
              · rw [if_pos hc29] at hF hS
                refine g_tableIn C 130 d_Ma_work_25 (by rw [hc29]; decide) (by rw [hc29]; decide) (by rw [hc29]; rfl) (by decide) ?_
                refine q_aload_n (r := x1) C d_Ma_work_130 rfl ?_
                refine g_iload_n C d_Ma_work_131 rfl ?_
                obtain ⟨ho30, hS⟩ := hS
                refine GW.known2 (a := x1.getD 0) (cOq.at ho30).1 ?_
                refine k_putN (M0 := M) (M := cP 10 M (x1.getD 0) 2 (.int (x2 + 1))) C hE.1 (ci := 10) i_Fr rfl 2 (by decide) (by decide) (gE_fN hE kf_Ma_67) t_Fr t_Fr_ok n_Fr rfl (nf_i _) d_Ma_work_132 (cOq.at ho30).2 ?_
                replace hle := cLe.cP (ci := 10) (a := x1.getD 0) (k := 2) (v := .int w4) hle
                refine g_goto C 218 d_Ma_work_135 (by decide) ?_
                exact c_vret (M := cP 10 (cP 10 M (x1.getD 0) 2 (.int (x2 + 1))) (x1.getD 0) 2 (.int w4)) C hr hlocks hle d_Ma_work_218 (by rw [← hF]; exact ⟨rfl, rfl⟩)
              · rw [if_neg hc29] at hF hS
                by_cases hc31 : w9 = 6
                · rw [if_pos hc31] at hF hS
                  refine g_tableIn C 138 d_Ma_work_25 (by rw [hc31]; decide) (by rw [hc31]; decide) (by rw [hc31]; rfl) (by decide) ?_
                  refine q_aload_n (r := x1) C d_Ma_work_138 rfl ?_
                  refine q_aload_n (r := x1) C d_Ma_work_139 rfl ?_
                  obtain ⟨ho32, hS⟩ := hS
                  refine GW.known1 (a := x1.getD 0) (cOq.at ho32).1 ?_
                  obtain ⟨hs33, hS⟩ := hS
                  refine c_call (av := [.ref (x1.getD 0)]) (rest := [va_rf x1]) C hE (fun _ h => h) ⟨rfl, rfl⟩ hle (cc_Fr_pop l hf D cs B dE lim _ (x1.getD 0)  hs33) (fun _ h => h) kd_Fr_pop ki_Fr (Nat.le_of_ble_eq_true rfl) (Nat.le_of_ble_eq_true rfl) d_Ma_work_140 (by simp only [List.map_cons, List.map_nil, rf_cat, List.sum_cons, List.sum_nil]; exact Nat.le_of_ble_eq_true rfl) (c_fV (n := 0) (ci := 10) C hE.1 rfl km_Ma_109 kv_Fr_pop kl_Fr_pop kd_Fr_pop ⟨by decide, by decide, by decide⟩ rfl rfl d_Ma_work_140 (cOq.at ho32).2) (fun v1 M1 hv hle => ?_) (fun E1 M1 hv hle => ?_)
                  · rw [mbind_eq] at hF hS
                    obtain ⟨hx, hM1⟩ := hv
                    have hM2 := hM1.symm
                    subst hM2
                    generalize hq_w34 : F_Fr_pop cs (cP 10 M (x1.getD 0) 2 (.int (x2 + 1))) (x1.getD 0)  = w34 at hF hS hx hle ⊢
                    cases hx
                    refine GW.eqs (st' := [.int w34.1, va_rf x1]) rfl ?_
                    refine g_if_ne C 150 d_Ma_work_143 (by decide) (fun hc35 => ?_) (fun hc35 => ?_)
                    · rw [if_neg hc35] at hF hS
                      refine g_iload_n C d_Ma_work_150 rfl ?_
                      refine g_iconst (v := 1) C d_Ma_work_151 (by decide) ?_
                      refine g_iadd C d_Ma_work_152 ?_
                      obtain ⟨ho36, hS⟩ := hS
                      refine GW.known2 (a := x1.getD 0) (cOq.at ho36).1 ?_
                      refine k_putN (M0 := M) (M := w34.2) C hE.1 (ci := 10) i_Fr rfl 2 (by decide) (by decide) (gE_fN hE kf_Ma_67) t_Fr t_Fr_ok n_Fr rfl (nf_i _) d_Ma_work_153 (cOq.at ho36).2 ?_
                      replace hle := cLe.cP (ci := 10) (a := x1.getD 0) (k := 2) (v := .int (x2 + 1)) hle
                      refine g_goto C 218 d_Ma_work_156 (by decide) ?_
                      exact c_vret (M := cP 10 w34.2 (x1.getD 0) 2 (.int (x2 + 1))) C hr hlocks hle d_Ma_work_218 (by rw [← hF]; exact ⟨rfl, rfl⟩)
                    · rw [if_pos hc35] at hF hS
                      refine g_iload_n C d_Ma_work_146 rfl ?_
                      refine g_goto C 153 d_Ma_work_147 (by decide) ?_
                      obtain ⟨ho37, hS⟩ := hS
                      refine GW.known2 (a := x1.getD 0) (cOq.at ho37).1 ?_
                      refine k_putN (M0 := M) (M := w34.2) C hE.1 (ci := 10) i_Fr rfl 2 (by decide) (by decide) (gE_fN hE kf_Ma_67) t_Fr t_Fr_ok n_Fr rfl (nf_i _) d_Ma_work_153 (cOq.at ho37).2 ?_
                      replace hle := cLe.cP (ci := 10) (a := x1.getD 0) (k := 2) (v := .int w4) hle
                      refine g_goto C 218 d_Ma_work_156 (by decide) ?_
                      exact c_vret (M := cP 10 w34.2 (x1.getD 0) 2 (.int w4)) C hr hlocks hle d_Ma_work_218 (by rw [← hF]; exact ⟨rfl, rfl⟩)
                  · cases hv.1
                · rw [if_neg hc31] at hF hS
                  by_cases hc38 : w9 = 7
                  · rw [if_pos hc38] at hF hS
                    refine g_tableIn C 159 d_Ma_work_25 (by rw [hc38]; decide) (by rw [hc38]; decide) (by rw [hc38]; rfl) (by decide) ?_
                    refine g_aload_n C d_Ma_work_159 rfl ?_
                    refine q_aload_n (r := x1) C d_Ma_work_160 rfl ?_
                    refine g_iload_n C d_Ma_work_161 rfl ?_
                    obtain ⟨ho39, hS⟩ := hS
                    obtain ⟨hs40, hS⟩ := hS
                    refine c_call (av := [.ref a0, va_rf x1, .int w4]) (rest := []) C hE (fun _ h => h) ⟨rfl, rfl⟩ hle (cc_Ma_combine l hf D cs B dE lim _ a0 x1 w4 hs40) (fun _ h => h) kd_Ma_combine ki_Ma (Nat.le_of_ble_eq_true rfl) (Nat.le_of_ble_eq_true rfl) d_Ma_work_162 (Nat.le_of_ble_eq_true rfl) (c_fV (n := 2) (ci := 8) C hE.1 rfl km_Ma_113 kv_Ma_combine kl_Ma_combine kd_Ma_combine ⟨by decide, by decide, by decide⟩ rfl rfl d_Ma_work_162 ho39) (fun v1 M1 hv hle => ?_) (fun E1 M1 hv hle => ?_)
                    · rw [mbind_eq] at hF hS
                      obtain ⟨hx, hM1⟩ := hv
                      have hM2 := hM1.symm
                      subst hM2
                      generalize hq_w41 : F_Ma_combine cs (cP 10 M (x1.getD 0) 2 (.int (x2 + 1))) a0 x1 w4 = w41 at hF hS hx hle ⊢
                      cases hx
                      refine GW.eqs (st' := []) rfl ?_
                      refine g_goto C 218 d_Ma_work_165 (by decide) ?_
                      exact c_vret (M := w41) C hr hlocks hle d_Ma_work_218 (by rw [← hF]; exact ⟨rfl, rfl⟩)
                    · cases hv.1
                  · rw [if_neg hc38] at hF hS
                    by_cases hc42 : w9 = 8
                    · rw [if_pos hc42] at hF hS
                      refine g_tableIn C 168 d_Ma_work_25 (by rw [hc42]; decide) (by rw [hc42]; decide) (by rw [hc42]; rfl) (by decide) ?_
                      refine g_aload_n C d_Ma_work_168 rfl ?_
                      refine q_aload_n (r := x1) C d_Ma_work_169 rfl ?_
                      refine g_iload_n C d_Ma_work_170 rfl ?_
                      obtain ⟨ho43, hS⟩ := hS
                      obtain ⟨hs44, hS⟩ := hS
                      refine c_call (av := [.ref a0, va_rf x1, .int x2]) (rest := []) C hE (fun _ h => h) ⟨rfl, rfl⟩ hle (cc_Ma_close l hf D cs B dE lim _ a0 x1 x2 hs44) (fun _ h => h) kd_Ma_close ki_Ma (Nat.le_of_ble_eq_true rfl) (Nat.le_of_ble_eq_true rfl) d_Ma_work_171 (Nat.le_of_ble_eq_true rfl) (c_fV (n := 2) (ci := 8) C hE.1 rfl km_Ma_116 kv_Ma_close kl_Ma_close kd_Ma_close ⟨by decide, by decide, by decide⟩ rfl rfl d_Ma_work_171 ho43) (fun v1 M1 hv hle => ?_) (fun E1 M1 hv hle => ?_)
                      · rw [mbind_eq] at hF hS
                        obtain ⟨hx, hM1⟩ := hv
                        have hM2 := hM1.symm
                        subst hM2
                        generalize hq_w45 : F_Ma_close cs dE (cP 10 M (x1.getD 0) 2 (.int (x2 + 1))) a0 x1 x2 = w45 at hF hS hx hle ⊢
                        cases hx
                        refine GW.eqs (st' := []) rfl ?_
                        refine g_goto C 218 d_Ma_work_174 (by decide) ?_
                        exact c_vret (M := w45) C hr hlocks hle d_Ma_work_218 (by rw [← hF]; exact ⟨rfl, rfl⟩)
                      · cases hv.1
                    · rw [if_neg hc42] at hF hS
                      by_cases hc46 : w9 = 9
                      · rw [if_pos hc46] at hF hS
                        refine g_tableIn C 177 d_Ma_work_25 (by rw [hc46]; decide) (by rw [hc46]; decide) (by rw [hc46]; rfl) (by decide) ?_
                        refine g_aload_n C d_Ma_work_177 rfl ?_
                        refine q_aload_n (r := x1) C d_Ma_work_178 rfl ?_
                        refine g_iload_n C d_Ma_work_179 rfl ?_
                        obtain ⟨ho47, hS⟩ := hS
                        obtain ⟨hs48, hS⟩ := hS
                        refine c_call (av := [.ref a0, va_rf x1, .int x2]) (rest := []) C hE (fun _ h => h) ⟨rfl, rfl⟩ hle (cc_Ma_install l hf D cs B dE lim _ a0 x1 x2 hs48) (fun _ h => h) kd_Ma_install ki_Ma (Nat.le_of_ble_eq_true rfl) (Nat.le_of_ble_eq_true rfl) d_Ma_work_180 (Nat.le_of_ble_eq_true rfl) (c_fV (n := 2) (ci := 8) C hE.1 rfl km_Ma_119 kv_Ma_install kl_Ma_install kd_Ma_install ⟨by decide, by decide, by decide⟩ rfl rfl d_Ma_work_180 ho47) (fun v1 M1 hv hle => ?_) (fun E1 M1 hv hle => ?_)
                        · rw [mbind_eq] at hF hS
                          obtain ⟨hx, hM1⟩ := hv
                          have hM2 := hM1.symm
                          subst hM2
                          generalize hq_w49 : F_Ma_install cs dE (cP 10 M (x1.getD 0) 2 (.int (x2 + 1))) a0 x1 x2 = w49 at hF hS hx hle ⊢
                          cases hx
                          refine GW.eqs (st' := []) rfl ?_
                          refine g_goto C 218 d_Ma_work_183 (by decide) ?_
                          exact c_vret (M := w49) C hr hlocks hle d_Ma_work_218 (by rw [← hF]; exact ⟨rfl, rfl⟩)
                        · cases hv.1
                      · rw [if_neg hc46] at hF hS
                        by_cases hc50 : w9 = 10
                        · rw [if_pos hc50] at hF hS
                          refine g_tableIn C 213 d_Ma_work_25 (by rw [hc50]; decide) (by rw [hc50]; decide) (by rw [hc50]; rfl) (by decide) ?_
                          refine g_aload_n C d_Ma_work_213 rfl ?_
                          refine q_aload_n (r := x1) C d_Ma_work_214 rfl ?_
                          obtain ⟨ho51, hS⟩ := hS
                          obtain ⟨hs52, hS⟩ := hS
                          refine c_call (av := [.ref a0, va_rf x1]) (rest := []) C hE (fun _ h => h) ⟨rfl, rfl⟩ hle (cc_Ma_end l hf D cs B dE lim _ a0 x1 hs52) (fun _ h => h) kd_Ma_end ki_Ma (Nat.le_of_ble_eq_true rfl) (Nat.le_of_ble_eq_true rfl) d_Ma_work_215 (Nat.le_of_ble_eq_true rfl) (c_fV (n := 1) (ci := 8) C hE.1 rfl km_Ma_133 kv_Ma_end kl_Ma_end kd_Ma_end ⟨by decide, by decide, by decide⟩ rfl rfl d_Ma_work_215 ho51) (fun v1 M1 hv hle => ?_) (fun E1 M1 hv hle => ?_)
                          · rw [mbind_eq] at hF hS
                            obtain ⟨hx, hM1⟩ := hv
                            have hM2 := hM1.symm
                            subst hM2
                            generalize hq_w53 : F_Ma_end cs (cP 10 M (x1.getD 0) 2 (.int (x2 + 1))) a0 x1 = w53 at hF hS hx hle ⊢
                            cases hx
                            refine GW.eqs (st' := []) rfl ?_
                            exact c_vret (M := w53) C hr hlocks hle d_Ma_work_218 (by rw [← hF]; exact ⟨rfl, rfl⟩)
                          · cases hv.1
                        · rw [if_neg hc50] at hF hS
                          by_cases hc54 : w9 = 11
                          · rw [if_pos hc54] at hF hS
                            refine g_tableIn C 186 d_Ma_work_25 (by rw [hc54]; decide) (by rw [hc54]; decide) (by rw [hc54]; rfl) (by decide) ?_
                            refine g_aload_n C d_Ma_work_186 rfl ?_
                            refine q_aload_n (r := x1) C d_Ma_work_187 rfl ?_
                            obtain ⟨ho55, hS⟩ := hS
                            obtain ⟨hs56, hS⟩ := hS
                            refine c_call (av := [.ref a0, va_rf x1]) (rest := []) C hE (fun _ h => h) ⟨rfl, rfl⟩ hle (cc_Ma_endBody l hf D cs B dE lim _ a0 x1 hs56) (fun _ h => h) kd_Ma_endBody ki_Ma (Nat.le_of_ble_eq_true rfl) (Nat.le_of_ble_eq_true rfl) d_Ma_work_188 (Nat.le_of_ble_eq_true rfl) (c_fV (n := 1) (ci := 8) C hE.1 rfl km_Ma_122 kv_Ma_endBody kl_Ma_endBody kd_Ma_endBody ⟨by decide, by decide, by decide⟩ rfl rfl d_Ma_work_188 ho55) (fun v1 M1 hv hle => ?_) (fun E1 M1 hv hle => ?_)
                            · rw [mbind_eq] at hF hS
                              obtain ⟨hx, hM1⟩ := hv
                              have hM2 := hM1.symm
                              subst hM2
                              generalize hq_w57 : F_Ma_endBody cs (cP 10 M (x1.getD 0) 2 (.int (x2 + 1))) a0 x1 = w57 at hF hS hx hle ⊢
                              cases hx
                              refine GW.eqs (st' := []) rfl ?_
                              refine g_goto C 218 d_Ma_work_191 (by decide) ?_
                              exact c_vret (M := w57) C hr hlocks hle d_Ma_work_218 (by rw [← hF]; exact ⟨rfl, rfl⟩)
                            · cases hv.1
                          · rw [if_neg hc54] at hF hS
                            by_cases hc58 : w9 = 12
                            · rw [if_pos hc58] at hF hS
                              refine g_tableIn C 194 d_Ma_work_25 (by rw [hc58]; decide) (by rw [hc58]; decide) (by rw [hc58]; rfl) (by decide) ?_
                              refine g_aload_n C d_Ma_work_194 rfl ?_
                              refine q_aload_n (r := x1) C d_Ma_work_195 rfl ?_
                              refine g_iload_n C d_Ma_work_196 rfl ?_
                              obtain ⟨ho59, hS⟩ := hS
                              obtain ⟨hs60, hS⟩ := hS
                              refine c_call (av := [.ref a0, va_rf x1, .int x2]) (rest := []) C hE (fun _ h => h) ⟨rfl, rfl⟩ hle (cc_Ma_apply l hf D cs B dE lim _ a0 x1 x2 hs60) (fun _ h => h) kd_Ma_apply ki_Ma (Nat.le_of_ble_eq_true rfl) (Nat.le_of_ble_eq_true rfl) d_Ma_work_197 (Nat.le_of_ble_eq_true rfl) (c_fV (n := 2) (ci := 8) C hE.1 rfl km_Ma_126 kv_Ma_apply kl_Ma_apply kd_Ma_apply ⟨by decide, by decide, by decide⟩ rfl rfl d_Ma_work_197 ho59) (fun v1 M1 hv hle => ?_) (fun E1 M1 hv hle => ?_)
                              · rw [mbind_eq] at hF hS
                                obtain ⟨hx, hM1⟩ := hv
                                have hM2 := hM1.symm
                                subst hM2
                                generalize hq_w61 : F_Ma_apply cs dE (cP 10 M (x1.getD 0) 2 (.int (x2 + 1))) a0 x1 x2 = w61 at hF hS hx hle ⊢
                                cases hx
                                refine GW.eqs (st' := []) rfl ?_
                                refine g_goto C 218 d_Ma_work_200 (by decide) ?_
                                exact c_vret (M := w61) C hr hlocks hle d_Ma_work_218 (by rw [← hF]; exact ⟨rfl, rfl⟩)
                              · cases hv.1
                            · rw [if_neg hc58] at hF hS
                              by_cases hc62 : w9 = 13
                              · rw [if_pos hc62] at hF hS
                                refine g_tableIn C 203 d_Ma_work_25 (by rw [hc62]; decide) (by rw [hc62]; decide) (by rw [hc62]; rfl) (by decide) ?_
                                refine g_aload_n C d_Ma_work_203 rfl ?_
                                refine q_aload_n (r := x1) C d_Ma_work_204 rfl ?_
                                refine g_iload_n C d_Ma_work_205 rfl ?_
                                refine g_iload_n C d_Ma_work_206 rfl ?_
                                obtain ⟨ho63, hS⟩ := hS
                                obtain ⟨hs64, hS⟩ := hS
                                refine c_call (av := [.ref a0, va_rf x1, .int x2, .int w4]) (rest := []) C hE (fun _ h => h) ⟨rfl, rfl⟩ hle (cc_Ma_raise l hf D cs B dE lim n _ a0 x1 x2 w4 hs64) (fun _ h => h) kd_Ma_raise ki_Ma (Nat.le_of_ble_eq_true rfl) (Nat.le_of_ble_eq_true rfl) d_Ma_work_207 (Nat.le_of_ble_eq_true rfl) (c_fV (n := 3) (ci := 8) C hE.1 rfl km_Ma_129 kv_Ma_raise kl_Ma_raise kd_Ma_raise ⟨by decide, by decide, by decide⟩ rfl rfl d_Ma_work_207 ho63) (fun v1 M1 hv hle => ?_) (fun E1 M1 hv hle => ?_)
                                · rw [mbind_eq] at hF hS
                                  obtain ⟨hx, hM1⟩ := hv
                                  have hM2 := hM1.symm
                                  subst hM2
                                  generalize hq_w65 : F_Ma_raise cs dE n (cP 10 M (x1.getD 0) 2 (.int (x2 + 1))) a0 x1 x2 w4 = w65 at hF hS hx hle ⊢
                                  cases hx
                                  refine GW.eqs (st' := []) rfl ?_
                                  refine g_goto C 218 d_Ma_work_210 (by decide) ?_
                                  exact c_vret (M := w65) C hr hlocks hle d_Ma_work_218 (by rw [← hF]; exact ⟨rfl, rfl⟩)
                                · cases hv.1
                              · rw [if_neg hc62] at hF hS
                                refine g_tableOut C 213 d_Ma_work_25 (by have := lv_neT hc10 (show (1 : Int32).toInt = 1 by decide); have := lv_neT hc14 (show (2 : Int32).toInt = 2 by decide); have := lv_neT hc21 (show (3 : Int32).toInt = 3 by decide); have := lv_neT hc25 (show (4 : Int32).toInt = 4 by decide); have := lv_neT hc29 (show (5 : Int32).toInt = 5 by decide); have := lv_neT hc31 (show (6 : Int32).toInt = 6 by decide); have := lv_neT hc38 (show (7 : Int32).toInt = 7 by decide); have := lv_neT hc42 (show (8 : Int32).toInt = 8 by decide); have := lv_neT hc46 (show (9 : Int32).toInt = 9 by decide); have := lv_neT hc50 (show (10 : Int32).toInt = 10 by decide); have := lv_neT hc54 (show (11 : Int32).toInt = 11 by decide); have := lv_neT hc58 (show (12 : Int32).toInt = 12 by decide); have := lv_neT hc62 (show (13 : Int32).toInt = 13 by decide); omega) (by decide) ?_
                                refine g_aload_n C d_Ma_work_213 rfl ?_
                                refine q_aload_n (r := x1) C d_Ma_work_214 rfl ?_
                                obtain ⟨ho66, hS⟩ := hS
                                obtain ⟨hs67, hS⟩ := hS
                                refine c_call (av := [.ref a0, va_rf x1]) (rest := []) C hE (fun _ h => h) ⟨rfl, rfl⟩ hle (cc_Ma_end l hf D cs B dE lim _ a0 x1 hs67) (fun _ h => h) kd_Ma_end ki_Ma (Nat.le_of_ble_eq_true rfl) (Nat.le_of_ble_eq_true rfl) d_Ma_work_215 (Nat.le_of_ble_eq_true rfl) (c_fV (n := 1) (ci := 8) C hE.1 rfl km_Ma_133 kv_Ma_end kl_Ma_end kd_Ma_end ⟨by decide, by decide, by decide⟩ rfl rfl d_Ma_work_215 ho66) (fun v1 M1 hv hle => ?_) (fun E1 M1 hv hle => ?_)
                                · rw [mbind_eq] at hF hS
                                  obtain ⟨hx, hM1⟩ := hv
                                  have hM2 := hM1.symm
                                  subst hM2
                                  generalize hq_w68 : F_Ma_end cs (cP 10 M (x1.getD 0) 2 (.int (x2 + 1))) a0 x1 = w68 at hF hS hx hle ⊢
                                  cases hx
                                  refine GW.eqs (st' := []) rfl ?_
                                  exact c_vret (M := w68) C hr hlocks hle d_Ma_work_218 (by rw [← hF]; exact ⟨rfl, rfl⟩)
                                · cases hv.1
    · cases hv.1
  · cases hv.1
def F_Ma_goOnFor_17 (cs : Nat → ClassId) (dE : Nat × Nat) : Nat → gMem → Nat → Int32 → Int32 → Int32 × gMem
  | 0, M, _, _, _ => (0, M)
  | n + 1, M, a0, x1, x2 => if 4000000 ≤ x2 then ((cI M a0 12, M)) else (if (cI M a0 4) = 1 then (if (cI M a0 13) = 0 then (if (cQ M a0 10) = none then ((cI M a0 12, M)) else (mbind (F_Ma_work cs dE n M a0 (cQ M a0 10) (cI M ((cQ M a0 10).getD 0) 2)) (fun w17 => F_Ma_goOnFor_17 cs dE n w17 a0 x1 (x2 + 1)))) else ((cI M a0 12, M))) else ((cI M a0 12, M)))
def S_Ma_goOnFor_17 (cs : Nat → ClassId) (lim : Nat × Nat) (dE : Nat × Nat) : Nat → gMem → Nat → Int32 → Int32 → Prop
  | 0, _, _, _, _ => False
  | n + 1, M, a0, x1, x2 => if 4000000 ≤ x2 then ((cOk 8 M a0) ∧ (True)) else ((cOk 8 M a0) ∧ (if (cI M a0 4) = 1 then ((cOk 8 M a0) ∧ (if (cI M a0 13) = 0 then ((cOk 8 M a0) ∧ (if (cQ M a0 10) = none then ((cOk 8 M a0) ∧ (True)) else ((cOk 8 M a0) ∧ ((cOk 8 M a0) ∧ ((cOq 10 M (cQ M a0 10)) ∧ ((cOk 8 M a0) ∧ ((S_Ma_work cs lim dE n M a0 (cQ M a0 10) (cI M ((cQ M a0 10).getD 0) 2)) ∧ (mbind (F_Ma_work cs dE n M a0 (cQ M a0 10) (cI M ((cQ M a0 10).getD 0) 2)) (fun w17 => S_Ma_goOnFor_17 cs lim dE n w17 a0 x1 (x2 + 1)))))))))) else ((cOk 8 M a0) ∧ (True)))) else ((cOk 8 M a0) ∧ (True))))
set_option maxRecDepth 100000 in
set_option maxHeartbeats 4000000 in
theorem w_Ma_goOnFor_17 {p : Program} {l : Launch} {e : Env} {s : State} {m : MethodId} {args : Array Value} {below : List Frame} {meth : Method} {c : Code} {D : va_G} {cs : Nat → ClassId} {B : Nat} {dE : Nat × Nat} {lim : Nat × Nat} {M0 : gMem} (C : CallFix p m c c_Ma_goOnFor 3 s args gT y_Ma_goOnFor.cls) (hE : gEnv D gcl (gtys cs) gz B dE s) (hf : l.flags = pinnedFlags ++ [noTraceFlag]) (hr : meth.sig.returnType = (some .int)) (hlocks : meth.locks = false) (hex : c.exceptionTable.isEmpty = true) (hn : meth.name = y_Ma_goOnFor.name) : ∀ (n : Nat) (M : gMem) (a0 : Nat) (x1 : Int32) (x2 : Int32) (Fv : Int32 × gMem) (hle : cLe lim M0 M) (hS : S_Ma_goOnFor_17 cs lim dE n M a0 x1 x2) (hF : F_Ma_goOnFor_17 cs dE n M a0 x1 x2 = Fv), GW p l e ({ frames := 13, cells := lim.1 - M0.2.1, slots := lim.2 - M0.2.2, locals := 288 } : Room) s m args below meth c 3 (gA B) (cQ0 below D B (gA B) lim M0 (fun x M' => x = .inl (some (.int Fv.1)) ∧ M' = Fv.2) args s) (gR D gcl B M) (M.2.1 - M0.2.1) (M.2.2 - M0.2.2) 17 [(0, .ref a0), (1, .int x1), (2, .int x2)] [] := by
  intro n
  induction n with
  | zero =>
    intro M a0 x1 x2 Fv hle hS hF
    exact hS.elim
  | succ n ih =>
    intro M a0 x1 x2 Fv hle hS hF
    simp only [S_Ma_goOnFor_17] at hS
    simp only [F_Ma_goOnFor_17] at hF
    refine g_iload_n C d_Ma_goOnFor_17 rfl ?_
    refine g_ldc C kk_Ma_66 d_Ma_goOnFor_18 ?_
    refine g_icmp_ge C 66 d_Ma_goOnFor_20 (by decide) (fun hc1 => ?_) (fun hc1 => ?_)
    · rw [if_pos hc1] at hF hS
      refine g_aload_n C d_Ma_goOnFor_66 rfl ?_
      obtain ⟨ho2, hS⟩ := hS
      refine c_geti C hE.1 (ci := 8) i_Ma rfl 12 (by decide) (by decide) (by decide) kf_Ma_60 d_Ma_goOnFor_67 ho2 ?_
      exact c_iret (M := M) C hr hlocks hle d_Ma_goOnFor_70 (by rw [← hF]; exact ⟨rfl, rfl⟩)
    · rw [if_neg hc1] at hF hS
      refine g_aload_n C d_Ma_goOnFor_23 rfl ?_
      obtain ⟨ho3, hS⟩ := hS
      refine c_geti C hE.1 (ci := 8) i_Ma rfl 4 (by decide) (by decide) (by decide) kf_Ma_54 d_Ma_goOnFor_24 ho3 ?_
      refine g_iconst (v := 1) C d_Ma_goOnFor_27 (by decide) ?_
      refine g_icmp_ne C 66 d_Ma_goOnFor_28 (by decide) (fun hc4 => ?_) (fun hc4 => ?_)
      · rw [if_neg hc4] at hF hS
        refine g_aload_n C d_Ma_goOnFor_66 rfl ?_
        obtain ⟨ho5, hS⟩ := hS
        refine c_geti C hE.1 (ci := 8) i_Ma rfl 12 (by decide) (by decide) (by decide) kf_Ma_60 d_Ma_goOnFor_67 ho5 ?_
        exact c_iret (M := M) C hr hlocks hle d_Ma_goOnFor_70 (by rw [← hF]; exact ⟨rfl, rfl⟩)
      · rw [if_pos hc4] at hF hS
        refine g_aload_n C d_Ma_goOnFor_31 rfl ?_
        obtain ⟨ho6, hS⟩ := hS
        refine c_geti C hE.1 (ci := 8) i_Ma rfl 13 (by decide) (by decide) (by decide) kf_Ma_63 d_Ma_goOnFor_32 ho6 ?_
        refine g_if_ne C 66 d_Ma_goOnFor_35 (by decide) (fun hc7 => ?_) (fun hc7 => ?_)
        · rw [if_neg hc7] at hF hS
          refine g_aload_n C d_Ma_goOnFor_66 rfl ?_
          obtain ⟨ho8, hS⟩ := hS
          refine c_geti C hE.1 (ci := 8) i_Ma rfl 12 (by decide) (by decide) (by decide) kf_Ma_60 d_Ma_goOnFor_67 ho8 ?_
          exact c_iret (M := M) C hr hlocks hle d_Ma_goOnFor_70 (by rw [← hF]; exact ⟨rfl, rfl⟩)
        · rw [if_pos hc7] at hF hS
          refine g_aload_n C d_Ma_goOnFor_38 rfl ?_
          obtain ⟨ho9, hS⟩ := hS
          refine c_getq C hE.1 (ci := 8) i_Ma rfl 10 (by decide) (by decide) (by decide) kf_Ma_41 d_Ma_goOnFor_39 ho9 ?_
          refine q_ifnull C 66 d_Ma_goOnFor_42 (by decide) (fun hc10 => ?_) (fun hc10 => ?_)
          · rw [if_pos hc10] at hF hS
            refine g_aload_n C d_Ma_goOnFor_66 rfl ?_
            obtain ⟨ho11, hS⟩ := hS
            refine c_geti C hE.1 (ci := 8) i_Ma rfl 12 (by decide) (by decide) (by decide) kf_Ma_60 d_Ma_goOnFor_67 ho11 ?_
            exact c_iret (M := M) C hr hlocks hle d_Ma_goOnFor_70 (by rw [← hF]; exact ⟨rfl, rfl⟩)
          · rw [if_neg hc10] at hF hS
            refine g_aload_n C d_Ma_goOnFor_45 rfl ?_
            refine g_aload_n C d_Ma_goOnFor_46 rfl ?_
            obtain ⟨ho12, hS⟩ := hS
            refine c_getq C hE.1 (ci := 8) i_Ma rfl 10 (by decide) (by decide) (by decide) kf_Ma_41 d_Ma_goOnFor_47 ho12 ?_
            refine g_aload_n C d_Ma_goOnFor_50 rfl ?_
            obtain ⟨ho13, hS⟩ := hS
            refine c_getq C hE.1 (ci := 8) i_Ma rfl 10 (by decide) (by decide) (by decide) kf_Ma_41 d_Ma_goOnFor_51 ho13 ?_
            obtain ⟨ho14, hS⟩ := hS
            refine GW.known1 (a := (cQ M a0 10).getD 0) (cOq.at ho14).1 ?_
            refine c_getiN C hE.1 (ci := 10) i_Fr rfl 2 (by decide) (by decide) (by decide) (gE_fN hE kf_Ma_67) d_Ma_goOnFor_54 (cOq.at ho14).2 ?_
            obtain ⟨ho15, hS⟩ := hS
            obtain ⟨hs16, hS⟩ := hS
            refine c_call (av := [.ref a0, va_rf (cQ M a0 10), .int (cI M ((cQ M a0 10).getD 0) 2)]) (rest := []) C hE (fun _ h => h) ⟨rfl, rfl⟩ hle (cc_Ma_work l hf D cs B dE lim n _ a0 (cQ M a0 10) (cI M ((cQ M a0 10).getD 0) 2) hs16) (fun _ h => h) kd_Ma_work ki_Ma (Nat.le_of_ble_eq_true rfl) (Nat.le_of_ble_eq_true rfl) d_Ma_goOnFor_57 (Nat.le_of_ble_eq_true rfl) (c_fV (n := 2) (ci := 8) C hE.1 rfl km_Ma_70 kv_Ma_work kl_Ma_work kd_Ma_work ⟨by decide, by decide, by decide⟩ rfl rfl d_Ma_goOnFor_57 ho15) (fun v1 M1 hv hle => ?_) (fun E1 M1 hv hle => ?_)
            · rw [mbind_eq] at hF hS
              obtain ⟨hx, hM1⟩ := hv
              have hM2 := hM1.symm
              subst hM2
              generalize hq_w17 : F_Ma_work cs dE n M a0 (cQ M a0 10) (cI M ((cQ M a0 10).getD 0) 2) = w17 at hF hS hx hle ⊢
              cases hx
              refine GW.eqs (st' := []) rfl ?_
              refine g_iinc (v := x2 + 1) (lv' := [(2, .int (x2 + 1)), (0, .ref a0), (1, .int x1)]) C d_Ma_goOnFor_60 rfl rfl (by decide) rfl ?_
              refine g_goto C 17 d_Ma_goOnFor_63 (by decide) ?_
              refine GW.subl [1, 2, 0] rfl ?_
              exact ih w17 a0 x1 (x2 + 1) Fv hle hS hF
            · cases hv.1
def F_Ma_goOnFor (cs : Nat → ClassId) (dE : Nat × Nat) (n : Nat) (M : gMem) (a0 : Nat) (x1 : Int32) : Int32 × gMem := F_Ma_goOnFor_17 cs dE n (cP 8 (cP 8 (cP 8 M a0 11 (.int x1)) a0 12 (.int 0)) a0 13 (.int 0)) a0 x1 0
def S_Ma_goOnFor (cs : Nat → ClassId) (lim : Nat × Nat) (dE : Nat × Nat) (n : Nat) (M : gMem) (a0 : Nat) (x1 : Int32) : Prop := (cOk 8 M a0) ∧ ((cOk 8 (cP 8 M a0 11 (.int x1)) a0) ∧ ((cOk 8 (cP 8 (cP 8 M a0 11 (.int x1)) a0 12 (.int 0)) a0) ∧ (S_Ma_goOnFor_17 cs lim dE n (cP 8 (cP 8 (cP 8 M a0 11 (.int x1)) a0 12 (.int 0)) a0 13 (.int 0)) a0 x1 0)))
set_option maxRecDepth 100000 in
set_option maxHeartbeats 4000000 in
theorem cc_Ma_goOnFor (l : Launch) (hf : l.flags = pinnedFlags ++ [noTraceFlag]) (D : va_G) (cs : Nat → ClassId) (B : Nat) (dE : Nat × Nat) (lim : Nat × Nat) (n : Nat) (M : gMem) (a0 : Nat) (x1 : Int32) (hS : S_Ma_goOnFor cs lim dE n M a0 x1) : cMet l y_Ma_goOnFor (Cond.code y_Ma_goOnFor c_Ma_goOnFor 3 (some .int)) (13) (288) D cs B dE (gA B) lim [.ref a0, .int x1] M (fun x M' => x = .inl (some (.int ((F_Ma_goOnFor cs dE n M a0 x1).1))) ∧ M' = (F_Ma_goOnFor cs dE n M a0 x1).2) := by
  refine cMet.ofW (by decide) (Nat.le_of_ble_eq_true rfl) (lv0 := [(0, .ref a0), (1, .int x1)]) rfl ?_
  intro p e s m args below meth c C hE hR0 hle hr hlocks hex hn
  generalize hF : F_Ma_goOnFor cs dE n M a0 x1 = Fv
  unfold F_Ma_goOnFor at hF
  unfold S_Ma_goOnFor at hS
  refine g_aload_n C d_Ma_goOnFor_0 rfl ?_
  refine g_iload_n C d_Ma_goOnFor_1 rfl ?_
  refine GW.more (A' := gA B) (fun _ h => h.elim) ?_
  obtain ⟨ho1, hS⟩ := hS
  refine k_put (M0 := M) (M := M) C hE.1 (ci := 8) i_Ma rfl 11 (by decide) (by decide) kf_Ma_57 t_Ma t_Ma_ok n_Ma rfl (nf_i _) d_Ma_goOnFor_2 ho1 ?_
  replace hle := cLe.cP (ci := 8) (a := a0) (k := 11) (v := .int x1) hle
  refine g_aload_n C d_Ma_goOnFor_5 rfl ?_
  refine g_iconst (v := 0) C d_Ma_goOnFor_6 (by decide) ?_
  obtain ⟨ho2, hS⟩ := hS
  refine k_put (M0 := M) (M := cP 8 M a0 11 (.int x1)) C hE.1 (ci := 8) i_Ma rfl 12 (by decide) (by decide) kf_Ma_60 t_Ma t_Ma_ok n_Ma rfl (nf_i _) d_Ma_goOnFor_7 ho2 ?_
  replace hle := cLe.cP (ci := 8) (a := a0) (k := 12) (v := .int 0) hle
  refine g_aload_n C d_Ma_goOnFor_10 rfl ?_
  refine g_iconst (v := 0) C d_Ma_goOnFor_11 (by decide) ?_
  obtain ⟨ho3, hS⟩ := hS
  refine k_put (M0 := M) (M := cP 8 (cP 8 M a0 11 (.int x1)) a0 12 (.int 0)) C hE.1 (ci := 8) i_Ma rfl 13 (by decide) (by decide) kf_Ma_63 t_Ma t_Ma_ok n_Ma rfl (nf_z (by decide)) d_Ma_goOnFor_12 ho3 ?_
  replace hle := cLe.cP (ci := 8) (a := a0) (k := 13) (v := .int 0) hle
  refine g_iconst (v := 0) C d_Ma_goOnFor_15 (by decide) ?_
  refine g_istore_n (lv' := [(2, .int 0), (0, .ref a0), (1, .int x1)]) C d_Ma_goOnFor_16 (by decide) rfl ?_
  refine GW.subl [1, 2, 0] rfl ?_
  exact w_Ma_goOnFor_17 C hE hf hr hlocks hex hn n (cP 8 (cP 8 (cP 8 M a0 11 (.int x1)) a0 12 (.int 0)) a0 13 (.int 0)) a0 x1 0 Fv hle hS hF
