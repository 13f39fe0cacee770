def F_Co_write (cs : Nat → ClassId) (n : Nat) : Nat → gMem → Nat → Int32 → Int32 → gMem
  | 0, M, _, _, _ => M
  | d + 1, M, a0, x1, x2 => if x2 ≤ 40 then (mbind (F_Ns_at cs M ((cQ M a0 0).getD 0) x1) (fun w5 => if (cI M (w5.getD 0) 0) = 3 then (mbind (F_Co_add cs M a0 2 (cI M (w5.getD 0) 1)) (fun w11 => w11.2)) else (if (cI M (w5.getD 0) 0) = 4 then (mbind (F_Co_write cs n d M a0 (cI M (w5.getD 0) 4) (x2 + 1)) (fun w16 => mbind (F_Co_writeScope cs n (F_Co_write cs n d) w16 a0 (cI w16 (w5.getD 0) 2) (cI w16 (w5.getD 0) 5) x2) (fun w21 => w21))) else (if (cI M (w5.getD 0) 0) = 5 then (mbind (F_Co_writeFunction cs n (F_Co_write cs n d) M a0 w5 x2) (fun w25 => mbind (F_Co_writeScope cs n (F_Co_write cs n d) w25 a0 (cI w25 (w5.getD 0) 3) (cI w25 (w5.getD 0) 5) x2) (fun w30 => w30))) else (if (cI M (w5.getD 0) 0) = 6 then (mbind (F_Co_writeChoice cs n (F_Co_write cs n d) M a0 w5 x2) (fun w34 => w34)) else (if (cI M (w5.getD 0) 0) = 7 then (mbind (F_Co_writeFunction cs n (F_Co_write cs n d) M a0 w5 x2) (fun w38 => w38)) else (if (cI M (w5.getD 0) 0) = 8 then (mbind (F_Co_writeHandle cs n (F_Co_write cs n d) M a0 w5 x2) (fun w42 => w42)) else (if (cI M (w5.getD 0) 0) = 9 then (mbind (F_Co_write cs n d M a0 (cI M (w5.getD 0) 4) (x2 + 1)) (fun w47 => mbind (F_Co_write cs n d w47 a0 (cI w47 (w5.getD 0) 5) (x2 + 1)) (fun w51 => mbind (F_Co_add cs w51 a0 7 (cI w51 (w5.getD 0) 1)) (fun w55 => w55.2)))) else (if (cI M (w5.getD 0) 0) = 10 then (mbind (F_Co_write cs n d M a0 (cI M (w5.getD 0) 4) (x2 + 1)) (fun w60 => mbind (F_Co_write cs n d w60 a0 (cI w60 (w5.getD 0) 5) (x2 + 1)) (fun w64 => mbind (F_Co_add cs w64 a0 12 0) (fun w67 => w67.2)))) else (if (cI M (w5.getD 0) 0) = 11 then (mbind (F_Co_write cs n d M a0 (cI M (w5.getD 0) 4) (x2 + 1)) (fun w72 => mbind (F_Co_add cs w72 a0 13 (cI w72 (w5.getD 0) 1)) (fun w76 => w76.2))) else (mbind (F_Co_add cs M a0 1 (cI M (w5.getD 0) 1)) (fun w80 => w80.2)))))))))))) else (M)
def S_Co_write (cs : Nat → ClassId) (lim : Nat × Nat) (n : Nat) : Nat → gMem → Nat → Int32 → Int32 → Prop
  | 0, _, _, _, _ => False
  | d + 1, M, a0, x1, x2 => if x2 ≤ 40 then ((cOk 7 M a0) ∧ ((cOq 3 M (cQ M a0 0)) ∧ ((S_Ns_at cs lim M ((cQ M a0 0).getD 0) x1) ∧ (mbind (F_Ns_at cs M ((cQ M a0 0).getD 0) x1) (fun w5 => (cOq 4 M w5) ∧ (if (cI M (w5.getD 0) 0) = 3 then ((cOq 4 M w5) ∧ ((cOk 7 M a0) ∧ ((S_Co_add cs lim M a0 2 (cI M (w5.getD 0) 1)) ∧ (mbind (F_Co_add cs M a0 2 (cI M (w5.getD 0) 1)) (fun w11 => True))))) else (if (cI M (w5.getD 0) 0) = 4 then ((cOq 4 M w5) ∧ ((cOk 7 M a0) ∧ ((S_Co_write cs lim n d M a0 (cI M (w5.getD 0) 4) (x2 + 1)) ∧ (mbind (F_Co_write cs n d M a0 (cI M (w5.getD 0) 4) (x2 + 1)) (fun w16 => (cOq 4 w16 w5) ∧ ((cOq 4 w16 w5) ∧ ((cOk 7 w16 a0) ∧ ((S_Co_writeScope cs lim n (F_Co_write cs n d) (S_Co_write cs lim n d) w16 a0 (cI w16 (w5.getD 0) 2) (cI w16 (w5.getD 0) 5) x2) ∧ (mbind (F_Co_writeScope cs n (F_Co_write cs n d) w16 a0 (cI w16 (w5.getD 0) 2) (cI w16 (w5.getD 0) 5) x2) (fun w21 => True)))))))))) else (if (cI M (w5.getD 0) 0) = 5 then ((cOk 7 M a0) ∧ ((S_Co_writeFunction cs lim n (F_Co_write cs n d) (S_Co_write cs lim n d) M a0 w5 x2) ∧ (mbind (F_Co_writeFunction cs n (F_Co_write cs n d) M a0 w5 x2) (fun w25 => (cOq 4 w25 w5) ∧ ((cOq 4 w25 w5) ∧ ((cOk 7 w25 a0) ∧ ((S_Co_writeScope cs lim n (F_Co_write cs n d) (S_Co_write cs lim n d) w25 a0 (cI w25 (w5.getD 0) 3) (cI w25 (w5.getD 0) 5) x2) ∧ (mbind (F_Co_writeScope cs n (F_Co_write cs n d) w25 a0 (cI w25 (w5.getD 0) 3) (cI w25 (w5.getD 0) 5) x2) (fun w30 => True))))))))) else (if (cI M (w5.getD 0) 0) = 6 then ((cOk 7 M a0) ∧ ((S_Co_writeChoice cs lim n (F_Co_write cs n d) (S_Co_write cs lim n d) M a0 w5 x2) ∧ (mbind (F_Co_writeChoice cs n (F_Co_write cs n d) M a0 w5 x2) (fun w34 => True)))) else (if (cI M (w5.getD 0) 0) = 7 then ((cOk 7 M a0) ∧ ((S_Co_writeFunction cs lim n (F_Co_write cs n d) (S_Co_write cs lim n d) M a0 w5 x2) ∧ (mbind (F_Co_writeFunction cs n (F_Co_write cs n d) M a0 w5 x2) (fun w38 => True)))) else (if (cI M (w5.getD 0) 0) = 8 then ((cOk 7 M a0) ∧ ((S_Co_writeHandle cs lim n (F_Co_write cs n d) (S_Co_write cs lim n d) M a0 w5 x2) ∧ (mbind (F_Co_writeHandle cs n (F_Co_write cs n d) M a0 w5 x2) (fun w42 => True)))) else (if (cI M (w5.getD 0) 0) = 9 then ((cOq 4 M w5) ∧ ((cOk 7 M a0) ∧ ((S_Co_write cs lim n d M a0 (cI M (w5.getD 0) 4) (x2 + 1)) ∧ (mbind (F_Co_write cs n d M a0 (cI M (w5.getD 0) 4) (x2 + 1)) (fun w47 => (cOq 4 w47 w5) ∧ ((cOk 7 w47 a0) ∧ ((S_Co_write cs lim n d w47 a0 (cI w47 (w5.getD 0) 5) (x2 + 1)) ∧ (mbind (F_Co_write cs n d w47 a0 (cI w47 (w5.getD 0) 5) (x2 + 1)) (fun w51 => (cOq 4 w51 w5) ∧ ((cOk 7 w51 a0) ∧ ((S_Co_add cs lim w51 a0 7 (cI w51 (w5.getD 0) 1)) ∧ (mbind (F_Co_add cs w51 a0 7 (cI w51 (w5.getD 0) 1)) (fun w55 => True))))))))))))) else (if (cI M (w5.getD 0) 0) = 10 then ((cOq 4 M w5) ∧ ((cOk 7 M a0) ∧ ((S_Co_write cs lim n d M a0 (cI M (w5.getD 0) 4) (x2 + 1)) ∧ (mbind (F_Co_write cs n d M a0 (cI M (w5.getD 0) 4) (x2 + 1)) (fun w60 => (cOq 4 w60 w5) ∧ ((cOk 7 w60 a0) ∧ ((S_Co_write cs lim n d w60 a0 (cI w60 (w5.getD 0) 5) (x2 + 1)) ∧ (mbind (F_Co_write cs n d w60 a0 (cI w60 (w5.getD 0) 5) (x2 + 1)) (fun w64 => (cOk 7 w64 a0) ∧ ((S_Co_add cs lim w64 a0 12 0) ∧ (mbind (F_Co_add cs w64 a0 12 0) (fun w67 => True)))))))))))) else (if (cI M (w5.getD 0) 0) = 11 then ((cOq 4 M w5) ∧ ((cOk 7 M a0) ∧ ((S_Co_write cs lim n d M a0 (cI M (w5.getD 0) 4) (x2 + 1)) ∧ (mbind (F_Co_write cs n d M a0 (cI M (w5.getD 0) 4) (x2 + 1)) (fun w72 => (cOq 4 w72 w5) ∧ ((cOk 7 w72 a0) ∧ ((S_Co_add cs lim w72 a0 13 (cI w72 (w5.getD 0) 1)) ∧ (mbind (F_Co_add cs w72 a0 13 (cI w72 (w5.getD 0) 1)) (fun w76 => True))))))))) else ((cOq 4 M w5) ∧ ((cOk 7 M a0) ∧ ((S_Co_add cs lim M a0 1 (cI M (w5.getD 0) 1)) ∧ (mbind (F_Co_add cs M a0 1 (cI M (w5.getD 0) 1)) (fun w80 => True))))))))))))))))))) else (True)
set_option maxRecDepth 100000 in
set_option maxHeartbeats 4000000 in
theorem cc_Co_write (l : Launch) (hf : l.flags = pinnedFlags ++ [noTraceFlag]) (D : va_G) (cs : Nat → ClassId) (B : Nat) (dE : Nat × Nat) (lim : Nat × Nat) (n : Nat) : ∀ (d : Nat) (M : gMem) (a0 : Nat) (x1 x2 : Int32) (hS : S_Co_write cs lim n d M a0 x1 x2), cMet l y_Co_write (Cond.code y_Co_write c_Co_write 4 none) (12 * d) (400 * d) D cs B dE (gA B) lim [.ref a0, .int x1, .int x2] M (fun x M' => x = .inl none ∧ M' = (F_Co_write cs n d M a0 x1 x2)) := by
  intro d
  induction d with
  | zero =>
    intro M a0 x1 x2 hS
    exact hS.elim
  | succ d ih =>
    intro M a0 x1 x2 hS
    refine cMet.ofW (by decide) (Nat.le_of_ble_eq_true rfl) (lv0 := [(0, .ref a0), (1, .int x1), (2, .int x2)]) rfl ?_
    intro p e s m args below meth c C hE hR0 hle hr hlocks hex hn
    generalize hF : F_Co_write cs n (d + 1) M a0 x1 x2 = Fv
    simp only [F_Co_write] at hF
    simp only [S_Co_write] at hS
    refine g_iload_n C d_Co_write_0 rfl ?_
    refine g_bipush (v := 40) C d_Co_write_1 (by decide) ?_
    refine g_icmp_le C 7 d_Co_write_3 (by decide) (fun hc1 => ?_) (fun hc1 => ?_)
    · rw [if_pos hc1] at hF hS
      refine g_aload_n C d_Co_write_7 rfl ?_
      obtain ⟨ho2, hS⟩ := hS
      refine c_getq C hE.1 (ci := 7) i_Co rfl 0 (by decide) (by decide) (by decide) kf_Co_18 d_Co_write_8 ho2 ?_
      refine g_iload_n C d_Co_write_11 rfl ?_
      obtain ⟨ho3, hS⟩ := hS
      refine GW.known2 (a := (cQ M a0 0).getD 0) (cOq.at ho3).1 ?_
      obtain ⟨hs4, hS⟩ := hS
      refine c_call (av := [.ref ((cQ M a0 0).getD 0), .int x1]) (rest := []) C hE (fun _ h => h.elim) ⟨rfl, rfl⟩ hle (cc_Ns_at l hf D cs B dE lim _ ((cQ M a0 0).getD 0) x1 hs4) (fun _ h => h.elim) kd_Ns_at ki_Ns (by dsimp only; omega) (by dsimp only; omega) d_Co_write_12 (Nat.le_of_ble_eq_true rfl) (c_fV (n := 1) (ci := 3) C hE.1 rfl km_Co_49 kv_Ns_at kl_Ns_at kd_Ns_at ⟨by decide, by decide, by decide⟩ rfl rfl d_Co_write_12 (cOq.at ho3).2) (fun v1 M1 hv hle => ?_) (fun E1 M1 hv hle => ?_)
      · rw [mbind_eq] at hF hS
        obtain ⟨hx, hM1⟩ := hv
        have hM2 := hM1.symm
        subst hM2
        generalize hq_w5 : F_Ns_at cs M ((cQ M a0 0).getD 0) x1 = w5 at hF hS hx hle ⊢
        cases hx
        refine GW.eqs (st' := [va_rf w5]) rfl ?_
        refine q_astore_n (r := w5) (lv' := [(3, va_rf w5), (0, .ref a0), (1, .int x1), (2, .int x2)]) C d_Co_write_15 (by decide) rfl ?_
        refine q_aload_n (r := w5) C d_Co_write_16 rfl ?_
        obtain ⟨ho6, hS⟩ := hS
        refine GW.known1 (a := w5.getD 0) (cOq.at ho6).1 ?_
        refine c_geti C hE.1 (ci := 4) i_No rfl 0 (by decide) (by decide) (by decide) kf_Co_54 d_Co_write_17 (cOq.at ho6).2 ?_
        by_cases hc7 : (cI M (w5.getD 0) 0) = 3
        · rw [if_pos hc7] at hF hS
          refine g_tableIn C 72 d_Co_write_20 (by rw [hc7]; decide) (by rw [hc7]; decide) (by rw [hc7]; rfl) (by decide) ?_
          refine g_aload_n C d_Co_write_72 rfl ?_
          refine g_iconst (v := 2) C d_Co_write_73 (by decide) ?_
          refine q_aload_n (r := w5) C d_Co_write_74 rfl ?_
          obtain ⟨ho8, hS⟩ := hS
          refine GW.known1 (a := w5.getD 0) (cOq.at ho8).1 ?_
          refine c_geti C hE.1 (ci := 4) i_No rfl 1 (by decide) (by decide) (by decide) kf_Co_59 d_Co_write_75 (cOq.at ho8).2 ?_
          refine GW.more (A' := gA B) (fun _ h => h.elim) ?_
          obtain ⟨ho9, hS⟩ := hS
          obtain ⟨hs10, hS⟩ := hS
          refine c_call (av := [.ref a0, .int 2, .int (cI M (w5.getD 0) 1)]) (rest := []) C hE (fun _ h => h) ⟨rfl, rfl⟩ hle (cc_Co_add l hf D cs B dE lim _ a0 2 (cI M (w5.getD 0) 1) hs10) (fun _ h => h) kd_Co_add ki_Co (by dsimp only; omega) (by dsimp only; omega) d_Co_write_78 (Nat.le_of_ble_eq_true rfl) (c_fV (n := 2) (ci := 7) C hE.1 rfl km_Co_34 kv_Co_add kl_Co_add kd_Co_add ⟨by decide, by decide, by decide⟩ rfl rfl d_Co_write_78 ho9) (fun v1 M1 hv hle => ?_) (fun E1 M1 hv hle => ?_)
          · rw [mbind_eq] at hF hS
            obtain ⟨hx, hM1⟩ := hv
            have hM2 := hM1.symm
            subst hM2
            generalize hq_w11 : F_Co_add cs M a0 2 (cI M (w5.getD 0) 1) = w11 at hF hS hx hle ⊢
            cases hx
            refine GW.eqs (st' := [.int w11.1]) rfl ?_
            refine g_pop C d_Co_write_81 rfl ?_
            refine g_goto C 265 d_Co_write_82 (by decide) ?_
            exact c_vret (M := w11.2) C hr hlocks hle d_Co_write_265 (by rw [← hF]; exact ⟨rfl, rfl⟩)
          · cases hv.1
        · rw [if_neg hc7] at hF hS
          by_cases hc12 : (cI M (w5.getD 0) 0) = 4
          · rw [if_pos hc12] at hF hS
            refine g_tableIn C 85 d_Co_write_20 (by rw [hc12]; decide) (by rw [hc12]; decide) (by rw [hc12]; rfl) (by decide) ?_
            refine g_aload_n C d_Co_write_85 rfl ?_
            refine q_aload_n (r := w5) C d_Co_write_86 rfl ?_
            obtain ⟨ho13, hS⟩ := hS
            refine GW.known1 (a := w5.getD 0) (cOq.at ho13).1 ?_
            refine c_geti C hE.1 (ci := 4) i_No rfl 4 (by decide) (by decide) (by decide) kf_Co_62 d_Co_write_87 (cOq.at ho13).2 ?_
            refine g_iload_n C d_Co_write_90 rfl ?_
            refine g_iconst (v := 1) C d_Co_write_91 (by decide) ?_
            refine g_iadd C d_Co_write_92 ?_
            refine GW.more (A' := gA B) (fun _ h => h.elim) ?_
            obtain ⟨ho14, hS⟩ := hS
            obtain ⟨hs15, hS⟩ := hS
            refine c_call (av := [.ref a0, .int (cI M (w5.getD 0) 4), .int (x2 + 1)]) (rest := []) C hE (fun _ h => h) ⟨rfl, rfl⟩ hle (ih _ a0 (cI M (w5.getD 0) 4) (x2 + 1) hs15) (fun _ h => h) kd_Co_write ki_Co (by dsimp only; omega) (by dsimp only; omega) d_Co_write_93 (Nat.le_of_ble_eq_true rfl) (c_fV (n := 2) (ci := 7) C hE.1 rfl km_Co_30 kv_Co_write kl_Co_write kd_Co_write ⟨by decide, by decide, by decide⟩ rfl rfl d_Co_write_93 ho14) (fun v1 M1 hv hle => ?_) (fun E1 M1 hv hle => ?_)
            · rw [mbind_eq] at hF hS
              obtain ⟨hx, hM1⟩ := hv
              have hM2 := hM1.symm
              subst hM2
              generalize hq_w16 : F_Co_write cs n d M a0 (cI M (w5.getD 0) 4) (x2 + 1) = w16 at hF hS hx hle ⊢
              cases hx
              refine GW.eqs (st' := []) rfl ?_
              refine g_aload_n C d_Co_write_96 rfl ?_
              refine q_aload_n (r := w5) C d_Co_write_97 rfl ?_
              obtain ⟨ho17, hS⟩ := hS
              refine GW.known1 (a := w5.getD 0) (cOq.at ho17).1 ?_
              refine c_geti C hE.1 (ci := 4) i_No rfl 2 (by decide) (by decide) (by decide) kf_Co_65 d_Co_write_98 (cOq.at ho17).2 ?_
              refine q_aload_n (r := w5) C d_Co_write_101 rfl ?_
              obtain ⟨ho18, hS⟩ := hS
              refine GW.known1 (a := w5.getD 0) (cOq.at ho18).1 ?_
              refine c_geti C hE.1 (ci := 4) i_No rfl 5 (by decide) (by decide) (by decide) kf_Co_68 d_Co_write_102 (cOq.at ho18).2 ?_
              refine g_iload_n C d_Co_write_105 rfl ?_
              obtain ⟨ho19, hS⟩ := hS
              obtain ⟨hs20, hS⟩ := hS
              refine c_call (av := [.ref a0, .int (cI w16 (w5.getD 0) 2), .int (cI w16 (w5.getD 0) 5), .int x2]) (rest := []) C hE (fun _ h => h) ⟨rfl, rfl⟩ hle (cc_Co_writeScope l hf D cs B dE lim n (F_Co_write cs n d) (S_Co_write cs lim n d) (12 * d) (400 * d) ih _ a0 (cI w16 (w5.getD 0) 2) (cI w16 (w5.getD 0) 5) x2 hs20) (fun _ h => h) kd_Co_writeScope ki_Co (by dsimp only; omega) (by dsimp only; omega) d_Co_write_106 (Nat.le_of_ble_eq_true rfl) (c_fV (n := 3) (ci := 7) C hE.1 rfl km_Co_71 kv_Co_writeScope kl_Co_writeScope kd_Co_writeScope ⟨by decide, by decide, by decide⟩ rfl rfl d_Co_write_106 ho19) (fun v1 M1 hv hle => ?_) (fun E1 M1 hv hle => ?_)
              · rw [mbind_eq] at hF hS
                obtain ⟨hx, hM1⟩ := hv
                have hM2 := hM1.symm
                subst hM2
                generalize hq_w21 : F_Co_writeScope cs n (F_Co_write cs n d) w16 a0 (cI w16 (w5.getD 0) 2) (cI w16 (w5.getD 0) 5) x2 = w21 at hF hS hx hle ⊢
                cases hx
                refine GW.eqs (st' := []) rfl ?_
                refine g_goto C 265 d_Co_write_109 (by decide) ?_
                exact c_vret (M := w21) C hr hlocks hle d_Co_write_265 (by rw [← hF]; exact ⟨rfl, rfl⟩)
              · cases hv.1
            · cases hv.1
          · rw [if_neg hc12] at hF hS
            by_cases hc22 : (cI M (w5.getD 0) 0) = 5
            · rw [if_pos hc22] at hF hS
              refine g_tableIn C 112 d_Co_write_20 (by rw [hc22]; decide) (by rw [hc22]; decide) (by rw [hc22]; rfl) (by decide) ?_
              refine g_aload_n C d_Co_write_112 rfl ?_
              refine q_aload_n (r := w5) C d_Co_write_113 rfl ?_
              refine g_iload_n C d_Co_write_114 rfl ?_
              refine GW.more (A' := gA B) (fun _ h => h.elim) ?_
              obtain ⟨ho23, hS⟩ := hS
              obtain ⟨hs24, hS⟩ := hS
              refine c_call (av := [.ref a0, va_rf w5, .int x2]) (rest := []) C hE (fun _ h => h) ⟨rfl, rfl⟩ hle (cc_Co_writeFunction l hf D cs B dE lim n (F_Co_write cs n d) (S_Co_write cs lim n d) (12 * d) (400 * d) ih _ a0 w5 x2 hs24) (fun _ h => h) kd_Co_writeFunction ki_Co (by dsimp only; omega) (by dsimp only; omega) d_Co_write_115 (Nat.le_of_ble_eq_true rfl) (c_fV (n := 2) (ci := 7) C hE.1 rfl km_Co_75 kv_Co_writeFunction kl_Co_writeFunction kd_Co_writeFunction ⟨by decide, by decide, by decide⟩ rfl rfl d_Co_write_115 ho23) (fun v1 M1 hv hle => ?_) (fun E1 M1 hv hle => ?_)
              · rw [mbind_eq] at hF hS
                obtain ⟨hx, hM1⟩ := hv
                have hM2 := hM1.symm
                subst hM2
                generalize hq_w25 : F_Co_writeFunction cs n (F_Co_write cs n d) M a0 w5 x2 = w25 at hF hS hx hle ⊢
                cases hx
                refine GW.eqs (st' := []) rfl ?_
                refine g_aload_n C d_Co_write_118 rfl ?_
                refine q_aload_n (r := w5) C d_Co_write_119 rfl ?_
                obtain ⟨ho26, hS⟩ := hS
                refine GW.known1 (a := w5.getD 0) (cOq.at ho26).1 ?_
                refine c_geti C hE.1 (ci := 4) i_No rfl 3 (by decide) (by decide) (by decide) kf_Co_79 d_Co_write_120 (cOq.at ho26).2 ?_
                refine q_aload_n (r := w5) C d_Co_write_123 rfl ?_
                obtain ⟨ho27, hS⟩ := hS
                refine GW.known1 (a := w5.getD 0) (cOq.at ho27).1 ?_
                refine c_geti C hE.1 (ci := 4) i_No rfl 5 (by decide) (by decide) (by decide) kf_Co_68 d_Co_write_124 (cOq.at ho27).2 ?_
                refine g_iload_n C d_Co_write_127 rfl ?_
                obtain ⟨ho28, hS⟩ := hS
                obtain ⟨hs29, hS⟩ := hS
                refine c_call (av := [.ref a0, .int (cI w25 (w5.getD 0) 3), .int (cI w25 (w5.getD 0) 5), .int x2]) (rest := []) C hE (fun _ h => h) ⟨rfl, rfl⟩ hle (cc_Co_writeScope l hf D cs B dE lim n (F_Co_write cs n d) (S_Co_write cs lim n d) (12 * d) (400 * d) ih _ a0 (cI w25 (w5.getD 0) 3) (cI w25 (w5.getD 0) 5) x2 hs29) (fun _ h => h) kd_Co_writeScope ki_Co (by dsimp only; omega) (by dsimp only; omega) d_Co_write_128 (Nat.le_of_ble_eq_true rfl) (c_fV (n := 3) (ci := 7) C hE.1 rfl km_Co_71 kv_Co_writeScope kl_Co_writeScope kd_Co_writeScope ⟨by decide, by decide, by decide⟩ rfl rfl d_Co_write_128 ho28) (fun v1 M1 hv hle => ?_) (fun E1 M1 hv hle => ?_)
                · rw [mbind_eq] at hF hS
                  obtain ⟨hx, hM1⟩ := hv
                  have hM2 := hM1.symm
                  subst hM2
                  generalize hq_w30 : F_Co_writeScope cs n (F_Co_write cs n d) w25 a0 (cI w25 (w5.getD 0) 3) (cI w25 (w5.getD 0) 5) x2 = w30 at hF hS hx hle ⊢
                  cases hx
                  refine GW.eqs (st' := []) rfl ?_
                  refine g_goto C 265 d_Co_write_131 (by decide) ?_
                  exact c_vret (M := w30) C hr hlocks hle d_Co_write_265 (by rw [← hF]; exact ⟨rfl, rfl⟩)
                · cases hv.1
              · cases hv.1
            · rw [if_neg hc22] at hF hS
              by_cases hc31 : (cI M (w5.getD 0) 0) = 6
              · rw [if_pos hc31] at hF hS
                refine g_tableIn C 143 d_Co_write_20 (by rw [hc31]; decide) (by rw [hc31]; decide) (by rw [hc31]; rfl) (by decide) ?_
                refine g_aload_n C d_Co_write_143 rfl ?_
                refine q_aload_n (r := w5) C d_Co_write_144 rfl ?_
                refine g_iload_n C d_Co_write_145 rfl ?_
                refine GW.more (A' := gA B) (fun _ h => h.elim) ?_
                obtain ⟨ho32, hS⟩ := hS
                obtain ⟨hs33, hS⟩ := hS
                refine c_call (av := [.ref a0, va_rf w5, .int x2]) (rest := []) C hE (fun _ h => h) ⟨rfl, rfl⟩ hle (cc_Co_writeChoice l hf D cs B dE lim n (F_Co_write cs n d) (S_Co_write cs lim n d) (12 * d) (400 * d) ih _ a0 w5 x2 hs33) (fun _ h => h) kd_Co_writeChoice ki_Co (by dsimp only; omega) (by dsimp only; omega) d_Co_write_146 (Nat.le_of_ble_eq_true rfl) (c_fV (n := 2) (ci := 7) C hE.1 rfl km_Co_82 kv_Co_writeChoice kl_Co_writeChoice kd_Co_writeChoice ⟨by decide, by decide, by decide⟩ rfl rfl d_Co_write_146 ho32) (fun v1 M1 hv hle => ?_) (fun E1 M1 hv hle => ?_)
                · rw [mbind_eq] at hF hS
                  obtain ⟨hx, hM1⟩ := hv
                  have hM2 := hM1.symm
                  subst hM2
                  generalize hq_w34 : F_Co_writeChoice cs n (F_Co_write cs n d) M a0 w5 x2 = w34 at hF hS hx hle ⊢
                  cases hx
                  refine GW.eqs (st' := []) rfl ?_
                  refine g_goto C 265 d_Co_write_149 (by decide) ?_
                  exact c_vret (M := w34) C hr hlocks hle d_Co_write_265 (by rw [← hF]; exact ⟨rfl, rfl⟩)
                · cases hv.1
              · rw [if_neg hc31] at hF hS
                by_cases hc35 : (cI M (w5.getD 0) 0) = 7
                · rw [if_pos hc35] at hF hS
                  refine g_tableIn C 134 d_Co_write_20 (by rw [hc35]; decide) (by rw [hc35]; decide) (by rw [hc35]; rfl) (by decide) ?_
                  refine g_aload_n C d_Co_write_134 rfl ?_
                  refine q_aload_n (r := w5) C d_Co_write_135 rfl ?_
                  refine g_iload_n C d_Co_write_136 rfl ?_
                  refine GW.more (A' := gA B) (fun _ h => h.elim) ?_
                  obtain ⟨ho36, hS⟩ := hS
                  obtain ⟨hs37, hS⟩ := hS
                  refine c_call (av := [.ref a0, va_rf w5, .int x2]) (rest := []) C hE (fun _ h => h) ⟨rfl, rfl⟩ hle (cc_Co_writeFunction l hf D cs B dE lim n (F_Co_write cs n d) (S_Co_write cs lim n d) (12 * d) (400 * d) ih _ a0 w5 x2 hs37) (fun _ h => h) kd_Co_writeFunction ki_Co (by dsimp only; omega) (by dsimp only; omega) d_Co_write_137 (Nat.le_of_ble_eq_true rfl) (c_fV (n := 2) (ci := 7) C hE.1 rfl km_Co_75 kv_Co_writeFunction kl_Co_writeFunction kd_Co_writeFunction ⟨by decide, by decide, by decide⟩ rfl rfl d_Co_write_137 ho36) (fun v1 M1 hv hle => ?_) (fun E1 M1 hv hle => ?_)
                  · rw [mbind_eq] at hF hS
                    obtain ⟨hx, hM1⟩ := hv
                    have hM2 := hM1.symm
                    subst hM2
                    generalize hq_w38 : F_Co_writeFunction cs n (F_Co_write cs n d) M a0 w5 x2 = w38 at hF hS hx hle ⊢
                    cases hx
                    refine GW.eqs (st' := []) rfl ?_
                    refine g_goto C 265 d_Co_write_140 (by decide) ?_
                    exact c_vret (M := w38) C hr hlocks hle d_Co_write_265 (by rw [← hF]; exact ⟨rfl, rfl⟩)
                  · cases hv.1
                · rw [if_neg hc35] at hF hS
                  by_cases hc39 : (cI M (w5.getD 0) 0) = 8
                  · rw [if_pos hc39] at hF hS
                    refine g_tableIn C 152 d_Co_write_20 (by rw [hc39]; decide) (by rw [hc39]; decide) (by rw [hc39]; rfl) (by decide) ?_
                    refine g_aload_n C d_Co_write_152 rfl ?_
                    refine q_aload_n (r := w5) C d_Co_write_153 rfl ?_
                    refine g_iload_n C d_Co_write_154 rfl ?_
                    refine GW.more (A' := gA B) (fun _ h => h.elim) ?_
                    obtain ⟨ho40, hS⟩ := hS
                    obtain ⟨hs41, hS⟩ := hS
                    refine c_call (av := [.ref a0, va_rf w5, .int x2]) (rest := []) C hE (fun _ h => h) ⟨rfl, rfl⟩ hle (cc_Co_writeHandle l hf D cs B dE lim n (F_Co_write cs n d) (S_Co_write cs lim n d) (12 * d) (400 * d) ih _ a0 w5 x2 hs41) (fun _ h => h) kd_Co_writeHandle ki_Co (by dsimp only; omega) (by dsimp only; omega) d_Co_write_155 (Nat.le_of_ble_eq_true rfl) (c_fV (n := 2) (ci := 7) C hE.1 rfl km_Co_85 kv_Co_writeHandle kl_Co_writeHandle kd_Co_writeHandle ⟨by decide, by decide, by decide⟩ rfl rfl d_Co_write_155 ho40) (fun v1 M1 hv hle => ?_) (fun E1 M1 hv hle => ?_)
                    · rw [mbind_eq] at hF hS
                      obtain ⟨hx, hM1⟩ := hv
                      have hM2 := hM1.symm
                      subst hM2
                      generalize hq_w42 : F_Co_writeHandle cs n (F_Co_write cs n d) M a0 w5 x2 = w42 at hF hS hx hle ⊢
                      cases hx
                      refine GW.eqs (st' := []) rfl ?_
                      refine g_goto C 265 d_Co_write_158 (by decide) ?_
                      exact c_vret (M := w42) C hr hlocks hle d_Co_write_265 (by rw [← hF]; exact ⟨rfl, rfl⟩)
                    · cases hv.1
                  · rw [if_neg hc39] at hF hS
                    by_cases hc43 : (cI M (w5.getD 0) 0) = 9
                    · rw [if_pos hc43] at hF hS
                      refine g_tableIn C 161 d_Co_write_20 (by rw [hc43]; decide) (by rw [hc43]; decide) (by rw [hc43]; rfl) (by decide) ?_
                      refine g_aload_n C d_Co_write_161 rfl ?_
                      refine q_aload_n (r := w5) C d_Co_write_162 rfl ?_
                      obtain ⟨ho44, hS⟩ := hS
                      refine GW.known1 (a := w5.getD 0) (cOq.at ho44).1 ?_
                      refine c_geti C hE.1 (ci := 4) i_No rfl 4 (by decide) (by decide) (by decide) kf_Co_62 d_Co_write_163 (cOq.at ho44).2 ?_
                      refine g_iload_n C d_Co_write_166 rfl ?_
                      refine g_iconst (v := 1) C d_Co_write_167 (by decide) ?_
                      refine g_iadd C d_Co_write_168 ?_
                      refine GW.more (A' := gA B) (fun _ h => h.elim) ?_
                      obtain ⟨ho45, hS⟩ := hS
                      obtain ⟨hs46, hS⟩ := hS
                      refine c_call (av := [.ref a0, .int (cI M (w5.getD 0) 4), .int (x2 + 1)]) (rest := []) C hE (fun _ h => h) ⟨rfl, rfl⟩ hle (ih _ a0 (cI M (w5.getD 0) 4) (x2 + 1) hs46) (fun _ h => h) kd_Co_write ki_Co (by dsimp only; omega) (by dsimp only; omega) d_Co_write_169 (Nat.le_of_ble_eq_true rfl) (c_fV (n := 2) (ci := 7) C hE.1 rfl km_Co_30 kv_Co_write kl_Co_write kd_Co_write ⟨by decide, by decide, by decide⟩ rfl rfl d_Co_write_169 ho45) (fun v1 M1 hv hle => ?_) (fun E1 M1 hv hle => ?_)
                      · rw [mbind_eq] at hF hS
                        obtain ⟨hx, hM1⟩ := hv
                        have hM2 := hM1.symm
                        subst hM2
                        generalize hq_w47 : F_Co_write cs n d M a0 (cI M (w5.getD 0) 4) (x2 + 1) = w47 at hF hS hx hle ⊢
                        cases hx
                        refine GW.eqs (st' := []) rfl ?_
                        refine g_aload_n C d_Co_write_172 rfl ?_
                        refine q_aload_n (r := w5) C d_Co_write_173 rfl ?_
                        obtain ⟨ho48, hS⟩ := hS
                        refine GW.known1 (a := w5.getD 0) (cOq.at ho48).1 ?_
                        refine c_geti C hE.1 (ci := 4) i_No rfl 5 (by decide) (by decide) (by decide) kf_Co_68 d_Co_write_174 (cOq.at ho48).2 ?_
                        refine g_iload_n C d_Co_write_177 rfl ?_
                        refine g_iconst (v := 1) C d_Co_write_178 (by decide) ?_
                        refine g_iadd C d_Co_write_179 ?_
                        obtain ⟨ho49, hS⟩ := hS
                        obtain ⟨hs50, hS⟩ := hS
                        refine c_call (av := [.ref a0, .int (cI w47 (w5.getD 0) 5), .int (x2 + 1)]) (rest := []) C hE (fun _ h => h) ⟨rfl, rfl⟩ hle (ih _ a0 (cI w47 (w5.getD 0) 5) (x2 + 1) hs50) (fun _ h => h) kd_Co_write ki_Co (by dsimp only; omega) (by dsimp only; omega) d_Co_write_180 (Nat.le_of_ble_eq_true rfl) (c_fV (n := 2) (ci := 7) C hE.1 rfl km_Co_30 kv_Co_write kl_Co_write kd_Co_write ⟨by decide, by decide, by decide⟩ rfl rfl d_Co_write_180 ho49) (fun v1 M1 hv hle => ?_) (fun E1 M1 hv hle => ?_)
                        · rw [mbind_eq] at hF hS
                          obtain ⟨hx, hM1⟩ := hv
                          have hM2 := hM1.symm
                          subst hM2
                          generalize hq_w51 : F_Co_write cs n d w47 a0 (cI w47 (w5.getD 0) 5) (x2 + 1) = w51 at hF hS hx hle ⊢
                          cases hx
                          refine GW.eqs (st' := []) rfl ?_
                          refine g_aload_n C d_Co_write_183 rfl ?_
                          refine g_bipush (v := 7) C d_Co_write_184 (by decide) ?_
                          refine q_aload_n (r := w5) C d_Co_write_186 rfl ?_
                          obtain ⟨ho52, hS⟩ := hS
                          refine GW.known1 (a := w5.getD 0) (cOq.at ho52).1 ?_
                          refine c_geti C hE.1 (ci := 4) i_No rfl 1 (by decide) (by decide) (by decide) kf_Co_59 d_Co_write_187 (cOq.at ho52).2 ?_
                          obtain ⟨ho53, hS⟩ := hS
                          obtain ⟨hs54, hS⟩ := hS
                          refine c_call (av := [.ref a0, .int 7, .int (cI w51 (w5.getD 0) 1)]) (rest := []) C hE (fun _ h => h) ⟨rfl, rfl⟩ hle (cc_Co_add l hf D cs B dE lim _ a0 7 (cI w51 (w5.getD 0) 1) hs54) (fun _ h => h) kd_Co_add ki_Co (by dsimp only; omega) (by dsimp only; omega) d_Co_write_190 (Nat.le_of_ble_eq_true rfl) (c_fV (n := 2) (ci := 7) C hE.1 rfl km_Co_34 kv_Co_add kl_Co_add kd_Co_add ⟨by decide, by decide, by decide⟩ rfl rfl d_Co_write_190 ho53) (fun v1 M1 hv hle => ?_) (fun E1 M1 hv hle => ?_)
                          · rw [mbind_eq] at hF hS
                            obtain ⟨hx, hM1⟩ := hv
                            have hM2 := hM1.symm
                            subst hM2
                            generalize hq_w55 : F_Co_add cs w51 a0 7 (cI w51 (w5.getD 0) 1) = w55 at hF hS hx hle ⊢
                            cases hx
                            refine GW.eqs (st' := [.int w55.1]) rfl ?_
                            refine g_pop C d_Co_write_193 rfl ?_
                            refine g_goto C 265 d_Co_write_194 (by decide) ?_
                            exact c_vret (M := w55.2) C hr hlocks hle d_Co_write_265 (by rw [← hF]; exact ⟨rfl, rfl⟩)
                          · cases hv.1
                        · cases hv.1
                      · cases hv.1
                    · rw [if_neg hc43] at hF hS
                      by_cases hc56 : (cI M (w5.getD 0) 0) = 10
                      · rw [if_pos hc56] at hF hS
                        refine g_tableIn C 197 d_Co_write_20 (by rw [hc56]; decide) (by rw [hc56]; decide) (by rw [hc56]; rfl) (by decide) ?_
                        refine g_aload_n C d_Co_write_197 rfl ?_
                        refine q_aload_n (r := w5) C d_Co_write_198 rfl ?_
                        obtain ⟨ho57, hS⟩ := hS
                        refine GW.known1 (a := w5.getD 0) (cOq.at ho57).1 ?_
                        refine c_geti C hE.1 (ci := 4) i_No rfl 4 (by decide) (by decide) (by decide) kf_Co_62 d_Co_write_199 (cOq.at ho57).2 ?_
                        refine g_iload_n C d_Co_write_202 rfl ?_
                        refine g_iconst (v := 1) C d_Co_write_203 (by decide) ?_
                        refine g_iadd C d_Co_write_204 ?_
                        refine GW.more (A' := gA B) (fun _ h => h.elim) ?_
                        obtain ⟨ho58, hS⟩ := hS
                        obtain ⟨hs59, hS⟩ := hS
                        refine c_call (av := [.ref a0, .int (cI M (w5.getD 0) 4), .int (x2 + 1)]) (rest := []) C hE (fun _ h => h) ⟨rfl, rfl⟩ hle (ih _ a0 (cI M (w5.getD 0) 4) (x2 + 1) hs59) (fun _ h => h) kd_Co_write ki_Co (by dsimp only; omega) (by dsimp only; omega) d_Co_write_205 (Nat.le_of_ble_eq_true rfl) (c_fV (n := 2) (ci := 7) C hE.1 rfl km_Co_30 kv_Co_write kl_Co_write kd_Co_write ⟨by decide, by decide, by decide⟩ rfl rfl d_Co_write_205 ho58) (fun v1 M1 hv hle => ?_) (fun E1 M1 hv hle => ?_)
                        · rw [mbind_eq] at hF hS
                          obtain ⟨hx, hM1⟩ := hv
                          have hM2 := hM1.symm
                          subst hM2
                          generalize hq_w60 : F_Co_write cs n d M a0 (cI M (w5.getD 0) 4) (x2 + 1) = w60 at hF hS hx hle ⊢
                          cases hx
                          refine GW.eqs (st' := []) rfl ?_
                          refine g_aload_n C d_Co_write_208 rfl ?_
                          refine q_aload_n (r := w5) C d_Co_write_209 rfl ?_
                          obtain ⟨ho61, hS⟩ := hS
                          refine GW.known1 (a := w5.getD 0) (cOq.at ho61).1 ?_
                          refine c_geti C hE.1 (ci := 4) i_No rfl 5 (by decide) (by decide) (by decide) kf_Co_68 d_Co_write_210 (cOq.at ho61).2 ?_
                          refine g_iload_n C d_Co_write_213 rfl ?_
                          refine g_iconst (v := 1) C d_Co_write_214 (by decide) ?_
                          refine g_iadd C d_Co_write_215 ?_
                          obtain ⟨ho62, hS⟩ := hS
                          obtain ⟨hs63, hS⟩ := hS
                          refine c_call (av := [.ref a0, .int (cI w60 (w5.getD 0) 5), .int (x2 + 1)]) (rest := []) C hE (fun _ h => h) ⟨rfl, rfl⟩ hle (ih _ a0 (cI w60 (w5.getD 0) 5) (x2 + 1) hs63) (fun _ h => h) kd_Co_write ki_Co (by dsimp only; omega) (by dsimp only; omega) d_Co_write_216 (Nat.le_of_ble_eq_true rfl) (c_fV (n := 2) (ci := 7) C hE.1 rfl km_Co_30 kv_Co_write kl_Co_write kd_Co_write ⟨by decide, by decide, by decide⟩ rfl rfl d_Co_write_216 ho62) (fun v1 M1 hv hle => ?_) (fun E1 M1 hv hle => ?_)
                          · rw [mbind_eq] at hF hS
                            obtain ⟨hx, hM1⟩ := hv
                            have hM2 := hM1.symm
                            subst hM2
                            generalize hq_w64 : F_Co_write cs n d w60 a0 (cI w60 (w5.getD 0) 5) (x2 + 1) = w64 at hF hS hx hle ⊢
                            cases hx
                            refine GW.eqs (st' := []) rfl ?_
                            refine g_aload_n C d_Co_write_219 rfl ?_
                            refine g_bipush (v := 12) C d_Co_write_220 (by decide) ?_
                            refine g_iconst (v := 0) C d_Co_write_222 (by decide) ?_
                            obtain ⟨ho65, hS⟩ := hS
                            obtain ⟨hs66, hS⟩ := hS
                            refine c_call (av := [.ref a0, .int 12, .int 0]) (rest := []) C hE (fun _ h => h) ⟨rfl, rfl⟩ hle (cc_Co_add l hf D cs B dE lim _ a0 12 0 hs66) (fun _ h => h) kd_Co_add ki_Co (by dsimp only; omega) (by dsimp only; omega) d_Co_write_223 (Nat.le_of_ble_eq_true rfl) (c_fV (n := 2) (ci := 7) C hE.1 rfl km_Co_34 kv_Co_add kl_Co_add kd_Co_add ⟨by decide, by decide, by decide⟩ rfl rfl d_Co_write_223 ho65) (fun v1 M1 hv hle => ?_) (fun E1 M1 hv hle => ?_)
                            · rw [mbind_eq] at hF hS
                              obtain ⟨hx, hM1⟩ := hv
                              have hM2 := hM1.symm
                              subst hM2
                              generalize hq_w67 : F_Co_add cs w64 a0 12 0 = w67 at hF hS hx hle ⊢
                              cases hx
                              refine GW.eqs (st' := [.int w67.1]) rfl ?_
                              refine g_pop C d_Co_write_226 rfl ?_
                              refine g_goto C 265 d_Co_write_227 (by decide) ?_
                              exact c_vret (M := w67.2) C hr hlocks hle d_Co_write_265 (by rw [← hF]; exact ⟨rfl, rfl⟩)
                            · cases hv.1
                          · cases hv.1
                        · cases hv.1
                      · rw [if_neg hc56] at hF hS
                        by_cases hc68 : (cI M (w5.getD 0) 0) = 11
                        · rw [if_pos hc68] at hF hS
                          refine g_tableIn C 230 d_Co_write_20 (by rw [hc68]; decide) (by rw [hc68]; decide) (by rw [hc68]; rfl) (by decide) ?_
                          refine g_aload_n C d_Co_write_230 rfl ?_
                          refine q_aload_n (r := w5) C d_Co_write_231 rfl ?_
                          obtain ⟨ho69, hS⟩ := hS
                          refine GW.known1 (a := w5.getD 0) (cOq.at ho69).1 ?_
                          refine c_geti C hE.1 (ci := 4) i_No rfl 4 (by decide) (by decide) (by decide) kf_Co_62 d_Co_write_232 (cOq.at ho69).2 ?_
                          refine g_iload_n C d_Co_write_235 rfl ?_
                          refine g_iconst (v := 1) C d_Co_write_236 (by decide) ?_
                          refine g_iadd C d_Co_write_237 ?_
                          refine GW.more (A' := gA B) (fun _ h => h.elim) ?_
                          obtain ⟨ho70, hS⟩ := hS
                          obtain ⟨hs71, hS⟩ := hS
                          refine c_call (av := [.ref a0, .int (cI M (w5.getD 0) 4), .int (x2 + 1)]) (rest := []) C hE (fun _ h => h) ⟨rfl, rfl⟩ hle (ih _ a0 (cI M (w5.getD 0) 4) (x2 + 1) hs71) (fun _ h => h) kd_Co_write ki_Co (by dsimp only; omega) (by dsimp only; omega) d_Co_write_238 (Nat.le_of_ble_eq_true rfl) (c_fV (n := 2) (ci := 7) C hE.1 rfl km_Co_30 kv_Co_write kl_Co_write kd_Co_write ⟨by decide, by decide, by decide⟩ rfl rfl d_Co_write_238 ho70) (fun v1 M1 hv hle => ?_) (fun E1 M1 hv hle => ?_)
                          · rw [mbind_eq] at hF hS
                            obtain ⟨hx, hM1⟩ := hv
                            have hM2 := hM1.symm
                            subst hM2
                            generalize hq_w72 : F_Co_write cs n d M a0 (cI M (w5.getD 0) 4) (x2 + 1) = w72 at hF hS hx hle ⊢
                            cases hx
                            refine GW.eqs (st' := []) rfl ?_
                            refine g_aload_n C d_Co_write_241 rfl ?_
                            refine g_bipush (v := 13) C d_Co_write_242 (by decide) ?_
                            refine q_aload_n (r := w5) C d_Co_write_244 rfl ?_
                            obtain ⟨ho73, hS⟩ := hS
                            refine GW.known1 (a := w5.getD 0) (cOq.at ho73).1 ?_
                            refine c_geti C hE.1 (ci := 4) i_No rfl 1 (by decide) (by decide) (by decide) kf_Co_59 d_Co_write_245 (cOq.at ho73).2 ?_
                            obtain ⟨ho74, hS⟩ := hS
                            obtain ⟨hs75, hS⟩ := hS
                            refine c_call (av := [.ref a0, .int 13, .int (cI w72 (w5.getD 0) 1)]) (rest := []) C hE (fun _ h => h) ⟨rfl, rfl⟩ hle (cc_Co_add l hf D cs B dE lim _ a0 13 (cI w72 (w5.getD 0) 1) hs75) (fun _ h => h) kd_Co_add ki_Co (by dsimp only; omega) (by dsimp only; omega) d_Co_write_248 (Nat.le_of_ble_eq_true rfl) (c_fV (n := 2) (ci := 7) C hE.1 rfl km_Co_34 kv_Co_add kl_Co_add kd_Co_add ⟨by decide, by decide, by decide⟩ rfl rfl d_Co_write_248 ho74) (fun v1 M1 hv hle => ?_) (fun E1 M1 hv hle => ?_)
                            · rw [mbind_eq] at hF hS
                              obtain ⟨hx, hM1⟩ := hv
                              have hM2 := hM1.symm
                              subst hM2
                              generalize hq_w76 : F_Co_add cs w72 a0 13 (cI w72 (w5.getD 0) 1) = w76 at hF hS hx hle ⊢
                              cases hx
                              refine GW.eqs (st' := [.int w76.1]) rfl ?_
                              refine g_pop C d_Co_write_251 rfl ?_
                              refine g_goto C 265 d_Co_write_252 (by decide) ?_
                              exact c_vret (M := w76.2) C hr hlocks hle d_Co_write_265 (by rw [← hF]; exact ⟨rfl, rfl⟩)
                            · cases hv.1
                          · cases hv.1
                        · rw [if_neg hc68] at hF hS
                          refine g_tableOut C 255 d_Co_write_20 (by have := lv_neT hc7 (show (3 : Int32).toInt = 3 by decide); have := lv_neT hc12 (show (4 : Int32).toInt = 4 by decide); have := lv_neT hc22 (show (5 : Int32).toInt = 5 by decide); have := lv_neT hc31 (show (6 : Int32).toInt = 6 by decide); have := lv_neT hc35 (show (7 : Int32).toInt = 7 by decide); have := lv_neT hc39 (show (8 : Int32).toInt = 8 by decide); have := lv_neT hc43 (show (9 : Int32).toInt = 9 by decide); have := lv_neT hc56 (show (10 : Int32).toInt = 10 by decide); have := lv_neT hc68 (show (11 : Int32).toInt = 11 by decide); omega) (by decide) ?_
                          refine g_aload_n C d_Co_write_255 rfl ?_
                          refine g_iconst (v := 1) C d_Co_write_256 (by decide) ?_
                          refine q_aload_n (r := w5) C d_Co_write_257 rfl ?_
                          obtain ⟨ho77, hS⟩ := hS
                          refine GW.known1 (a := w5.getD 0) (cOq.at ho77).1 ?_
                          refine c_geti C hE.1 (ci := 4) i_No rfl 1 (by decide) (by decide) (by decide) kf_Co_59 d_Co_write_258 (cOq.at ho77).2 ?_
                          refine GW.more (A' := gA B) (fun _ h => h.elim) ?_
                          obtain ⟨ho78, hS⟩ := hS
                          obtain ⟨hs79, hS⟩ := hS
                          refine c_call (av := [.ref a0, .int 1, .int (cI M (w5.getD 0) 1)]) (rest := []) C hE (fun _ h => h) ⟨rfl, rfl⟩ hle (cc_Co_add l hf D cs B dE lim _ a0 1 (cI M (w5.getD 0) 1) hs79) (fun _ h => h) kd_Co_add ki_Co (by dsimp only; omega) (by dsimp only; omega) d_Co_write_261 (Nat.le_of_ble_eq_true rfl) (c_fV (n := 2) (ci := 7) C hE.1 rfl km_Co_34 kv_Co_add kl_Co_add kd_Co_add ⟨by decide, by decide, by decide⟩ rfl rfl d_Co_write_261 ho78) (fun v1 M1 hv hle => ?_) (fun E1 M1 hv hle => ?_)
                          · rw [mbind_eq] at hF hS
                            obtain ⟨hx, hM1⟩ := hv
                            have hM2 := hM1.symm
                            subst hM2
                            generalize hq_w80 : F_Co_add cs M a0 1 (cI M (w5.getD 0) 1) = w80 at hF hS hx hle ⊢
                            cases hx
                            refine GW.eqs (st' := [.int w80.1]) rfl ?_
                            refine g_pop C d_Co_write_264 rfl ?_
                            exact c_vret (M := w80.2) C hr hlocks hle d_Co_write_265 (by rw [← hF]; exact ⟨rfl, rfl⟩)
                          · cases hv.1
      · cases hv.1
    · rw [if_neg hc1] at hF hS
      refine GW.more (A' := gA B) (fun _ h => h.elim) ?_
      exact c_vret (M := M) C hr hlocks hle d_Co_write_6 (by rw [← hF]; exact ⟨rfl, rfl⟩)
def F_Co_compile (cs : Nat → ClassId) (n : Nat) (M : gMem) (a0 : Nat) (x1 : Int32) : gMem := mbind (F_Co_write cs n 42 (cP 7 M a0 2 (.int 0)) a0 x1 1) (fun w4 => mbind (F_Co_add cs w4 a0 0 0) (fun w7 => w7.2))
def S_Co_compile (cs : Nat → ClassId) (lim : Nat × Nat) (n : Nat) (M : gMem) (a0 : Nat) (x1 : Int32) : Prop := (cOk 7 M a0) ∧ ((cOk 7 (cP 7 M a0 2 (.int 0)) a0) ∧ ((S_Co_write cs lim n 42 (cP 7 M a0 2 (.int 0)) a0 x1 1) ∧ (mbind (F_Co_write cs n 42 (cP 7 M a0 2 (.int 0)) a0 x1 1) (fun w4 => (cOk 7 w4 a0) ∧ ((S_Co_add cs lim w4 a0 0 0) ∧ (mbind (F_Co_add cs w4 a0 0 0) (fun w7 => True)))))))
set_option maxRecDepth 100000 in
set_option maxHeartbeats 4000000 in
theorem cc_Co_compile (l : Launch) (hf : l.flags = pinnedFlags ++ [noTraceFlag]) (D : va_G) (cs : Nat → ClassId) (B : Nat) (dE : Nat × Nat) (lim : Nat × Nat) (n : Nat) (M : gMem) (a0 : Nat) (x1 : Int32) (hS : S_Co_compile cs lim n M a0 x1) : cMet l y_Co_compile (Cond.code y_Co_compile c_Co_compile 2 none) (505) (16823) D cs B dE (gA B) lim [.ref a0, .int x1] M (fun x M' => x = .inl none ∧ M' = (F_Co_compile cs n M a0 x1)) := by
  refine cMet.ofW (by decide) (Nat.le_of_ble_eq_true rfl) (lv0 := [(0, .ref a0), (1, .int x1)]) rfl ?_
  intro p e s m args below meth c C hE hR0 hle hr hlocks hex hn
  generalize hF : F_Co_compile cs n M a0 x1 = Fv
  unfold F_Co_compile at hF
  unfold S_Co_compile at hS
  refine g_aload_n C d_Co_compile_0 rfl ?_
  refine g_iconst (v := 0) C d_Co_compile_1 (by decide) ?_
  refine GW.more (A' := gA B) (fun _ h => h.elim) ?_
  obtain ⟨ho1, hS⟩ := hS
  refine k_put (M0 := M) (M := M) C hE.1 (ci := 7) i_Co rfl 2 (by decide) (by decide) kf_Co_26 t_Co t_Co_ok n_Co rfl (nf_i _) d_Co_compile_2 ho1 ?_
  replace hle := cLe.cP (ci := 7) (a := a0) (k := 2) (v := .int 0) hle
  refine g_aload_n C d_Co_compile_5 rfl ?_
  refine g_iload_n C d_Co_compile_6 rfl ?_
  refine g_iconst (v := 1) C d_Co_compile_7 (by decide) ?_
  obtain ⟨ho2, hS⟩ := hS
  obtain ⟨hs3, hS⟩ := hS
  refine c_call (av := [.ref a0, .int x1, .int 1]) (rest := []) C hE (fun _ h => h) ⟨rfl, rfl⟩ hle (cc_Co_write l hf D cs B dE lim n 42 _ a0 x1 1 hs3) (fun _ h => h) kd_Co_write ki_Co (Nat.le_of_ble_eq_true rfl) (Nat.le_of_ble_eq_true rfl) d_Co_compile_8 (Nat.le_of_ble_eq_true rfl) (c_fV (n := 2) (ci := 7) C hE.1 rfl km_Co_30 kv_Co_write kl_Co_write kd_Co_write ⟨by decide, by decide, by decide⟩ rfl rfl d_Co_compile_8 ho2) (fun v1 M1 hv hle => ?_) (fun E1 M1 hv hle => ?_)
  · rw [mbind_eq] at hF hS
    obtain ⟨hx, hM1⟩ := hv
    have hM2 := hM1.symm
    subst hM2
    generalize hq_w4 : F_Co_write cs n 42 (cP 7 M a0 2 (.int 0)) a0 x1 1 = w4 at hF hS hx hle ⊢
    cases hx
    refine GW.eqs (st' := []) rfl ?_
    refine g_aload_n C d_Co_compile_11 rfl ?_
    refine g_iconst (v := 0) C d_Co_compile_12 (by decide) ?_
    refine g_iconst (v := 0) C d_Co_compile_13 (by decide) ?_
    obtain ⟨ho5, hS⟩ := hS
    obtain ⟨hs6, hS⟩ := hS
    refine c_call (av := [.ref a0, .int 0, .int 0]) (rest := []) C hE (fun _ h => h) ⟨rfl, rfl⟩ hle (cc_Co_add l hf D cs B dE lim _ a0 0 0 hs6) (fun _ h => h) kd_Co_add ki_Co (Nat.le_of_ble_eq_true rfl) (Nat.le_of_ble_eq_true rfl) d_Co_compile_14 (Nat.le_of_ble_eq_true rfl) (c_fV (n := 2) (ci := 7) C hE.1 rfl km_Co_34 kv_Co_add kl_Co_add kd_Co_add ⟨by decide, by decide, by decide⟩ rfl rfl d_Co_compile_14 ho5) (fun v1 M1 hv hle => ?_) (fun E1 M1 hv hle => ?_)
    · rw [mbind_eq] at hF hS
      obtain ⟨hx, hM1⟩ := hv
      have hM2 := hM1.symm
      subst hM2
      generalize hq_w7 : F_Co_add cs w4 a0 0 0 = w7 at hF hS hx hle ⊢
      cases hx
      refine GW.eqs (st' := [.int w7.1]) rfl ?_
      refine g_pop C d_Co_compile_17 rfl ?_
      exact c_vret (M := w7.2) C hr hlocks hle d_Co_compile_18 (by rw [← hF]; exact ⟨rfl, rfl⟩)
    · cases hv.1
  · cases hv.1
def F_Co_caseOf_22 (cs : Nat → ClassId) : Nat → gMem → Nat → Option Nat → Int32 → Int32 → Int32 → Int32 → Int32
  | 0, M, _, _, _, _, _, _ => 0
  | n + 1, M, a0, x1, x2, x3, x4, x5 => if x4 < x5 then ((-1)) else (if 8 < x5 then ((-1)) else (mbind (F_Co_field cs M a0 (x3 + x5) 1) (fun w5 => if w5 = x2 then (x3 + x5) else (F_Co_caseOf_22 cs n M a0 x1 x2 x3 x4 (x5 + 1)))))
def S_Co_caseOf_22 (cs : Nat → ClassId) (lim : Nat × Nat) : Nat → gMem → Nat → Option Nat → Int32 → Int32 → Int32 → Int32 → Prop
  | 0, _, _, _, _, _, _, _ => False
  | n + 1, M, a0, x1, x2, x3, x4, x5 => if x4 < x5 then (True) else (if 8 < x5 then (True) else ((cOk 7 M a0) ∧ ((S_Co_field cs lim M a0 (x3 + x5) 1) ∧ (mbind (F_Co_field cs M a0 (x3 + x5) 1) (fun w5 => if w5 = x2 then (True) else (S_Co_caseOf_22 cs lim n M a0 x1 x2 x3 x4 (x5 + 1)))))))
set_option maxRecDepth 100000 in
set_option maxHeartbeats 4000000 in
theorem w_Co_caseOf_22 {p : Program} {l : Launch} {e : Env} {s : State} {m : MethodId} {args : Array Value} {below : List Frame} {meth : Method} {c : Code} {D : va_G} {cs : Nat → ClassId} {B : Nat} {dE : Nat × Nat} {lim : Nat × Nat} {M0 : gMem} (C : CallFix p m c c_Co_caseOf 6 s args gT y_Co_caseOf.cls) (hE : gEnv D gcl (gtys cs) gz B dE s) (hf : l.flags = pinnedFlags ++ [noTraceFlag]) (hr : meth.sig.returnType = (some .int)) (hlocks : meth.locks = false) (hex : c.exceptionTable.isEmpty = true) (hn : meth.name = y_Co_caseOf.name) : ∀ (n : Nat) (M : gMem) (a0 : Nat) (x1 : Option Nat) (x2 : Int32) (x3 : Int32) (x4 : Int32) (x5 : Int32) (Fv : Int32) (hle : cLe lim M0 M) (hS : S_Co_caseOf_22 cs lim n M a0 x1 x2 x3 x4 x5) (hF : F_Co_caseOf_22 cs n M a0 x1 x2 x3 x4 x5 = Fv), GW p l e ({ frames := 2, cells := lim.1 - M0.2.1, slots := lim.2 - M0.2.2, locals := 43 } : Room) s m args below meth c 6 (fun _ => False) (cQ0 below D B (fun _ => False) lim M0 (fun x M' => x = .inl (some (.int Fv)) ∧ M' = M) args s) (gR D gcl B M) (M.2.1 - M0.2.1) (M.2.2 - M0.2.2) 22 [(0, .ref a0), (1, va_rf x1), (2, .int x2), (3, .int x3), (4, .int x4), (5, .int x5)] [] := by
  intro n
  induction n with
  | zero =>
    intro M a0 x1 x2 x3 x4 x5 Fv hle hS hF
    exact hS.elim
  | succ n ih =>
    intro M a0 x1 x2 x3 x4 x5 Fv hle hS hF
    simp only [S_Co_caseOf_22] at hS
    simp only [F_Co_caseOf_22] at hF
    refine g_iload C d_Co_caseOf_22 rfl ?_
    refine g_iload C d_Co_caseOf_24 rfl ?_
    refine g_icmp_gt C 60 d_Co_caseOf_26 (by decide) (fun hc1 => ?_) (fun hc1 => ?_)
    · rw [if_pos hc1] at hF hS
      refine g_iconst (v := (-1)) C d_Co_caseOf_60 (by decide) ?_
      exact c_iret (M := M) C hr hlocks hle d_Co_caseOf_61 (by rw [← hF]; exact ⟨rfl, rfl⟩)
    · rw [if_neg hc1] at hF hS
      refine g_iload C d_Co_caseOf_29 rfl ?_
      refine g_bipush (v := 8) C d_Co_caseOf_31 (by decide) ?_
      refine g_icmp_gt C 60 d_Co_caseOf_33 (by decide) (fun hc2 => ?_) (fun hc2 => ?_)
      · rw [if_pos hc2] at hF hS
        refine g_iconst (v := (-1)) C d_Co_caseOf_60 (by decide) ?_
        exact c_iret (M := M) C hr hlocks hle d_Co_caseOf_61 (by rw [← hF]; exact ⟨rfl, rfl⟩)
      · rw [if_neg hc2] at hF hS
        refine g_aload_n C d_Co_caseOf_36 rfl ?_
        refine g_iload_n C d_Co_caseOf_37 rfl ?_
        refine g_iload C d_Co_caseOf_38 rfl ?_
        refine g_iadd C d_Co_caseOf_40 ?_
        refine g_iconst (v := 1) C d_Co_caseOf_41 (by decide) ?_
        obtain ⟨ho3, hS⟩ := hS
        obtain ⟨hs4, hS⟩ := hS
        refine c_call (av := [.ref a0, .int (x3 + x5), .int 1]) (rest := []) C hE (fun _ h => h.elim) ⟨rfl, rfl⟩ hle (cc_Co_field l hf D cs B dE lim _ a0 (x3 + x5) 1 hs4) (fun _ h => h.elim) kd_Co_field ki_Co (Nat.le_of_ble_eq_true rfl) (Nat.le_of_ble_eq_true rfl) d_Co_caseOf_42 (Nat.le_of_ble_eq_true rfl) (c_fV (n := 2) (ci := 7) C hE.1 rfl km_Co_43 kv_Co_field kl_Co_field kd_Co_field ⟨by decide, by decide, by decide⟩ rfl rfl d_Co_caseOf_42 ho3) (fun v1 M1 hv hle => ?_) (fun E1 M1 hv hle => ?_)
        · rw [mbind_eq] at hF hS
          obtain ⟨hx, hM1⟩ := hv
          have hM2 := hM1.symm
          subst hM2
          generalize hq_w5 : F_Co_field cs M a0 (x3 + x5) 1 = w5 at hF hS hx hle ⊢
          cases hx
          refine GW.eqs (st' := [.int w5]) rfl ?_
          refine g_iload_n C d_Co_caseOf_45 rfl ?_
          refine g_icmp_ne C 54 d_Co_caseOf_46 (by decide) (fun hc6 => ?_) (fun hc6 => ?_)
          · rw [if_neg hc6] at hF hS
            refine g_iinc (v := x5 + 1) (lv' := [(5, .int (x5 + 1)), (0, .ref a0), (1, va_rf x1), (2, .int x2), (3, .int x3), (4, .int x4)]) C d_Co_caseOf_54 rfl rfl (by decide) rfl ?_
            refine g_goto C 22 d_Co_caseOf_57 (by decide) ?_
            refine GW.subl [1, 2, 3, 4, 5, 0] rfl ?_
            exact ih M a0 x1 x2 x3 x4 (x5 + 1) Fv hle hS hF
          · rw [if_pos hc6] at hF hS
            refine g_iload_n C d_Co_caseOf_49 rfl ?_
            refine g_iload C d_Co_caseOf_50 rfl ?_
            refine g_iadd C d_Co_caseOf_52 ?_
            exact c_iret (M := M) C hr hlocks hle d_Co_caseOf_53 (by rw [← hF]; exact ⟨rfl, rfl⟩)
        · cases hv.1
def F_Co_caseOf (cs : Nat → ClassId) (n : Nat) (M : gMem) (a0 : Nat) (x1 : Option Nat) (x2 : Int32) : Int32 := if x1 = none then ((-1)) else (mbind (F_Co_field cs M a0 (cI M (x1.getD 0) 1) 4) (fun w5 => F_Co_caseOf_22 cs n M a0 x1 x2 (cI M (x1.getD 0) 1) w5 1))
def S_Co_caseOf (cs : Nat → ClassId) (lim : Nat × Nat) (n : Nat) (M : gMem) (a0 : Nat) (x1 : Option Nat) (x2 : Int32) : Prop := if x1 = none then (True) else ((cOq 11 M x1) ∧ ((cOk 7 M a0) ∧ ((S_Co_field cs lim M a0 (cI M (x1.getD 0) 1) 4) ∧ (mbind (F_Co_field cs M a0 (cI M (x1.getD 0) 1) 4) (fun w5 => S_Co_caseOf_22 cs lim n M a0 x1 x2 (cI M (x1.getD 0) 1) w5 1)))))
set_option maxRecDepth 100000 in
set_option maxHeartbeats 4000000 in
theorem cc_Co_caseOf (l : Launch) (hf : l.flags = pinnedFlags ++ [noTraceFlag]) (D : va_G) (cs : Nat → ClassId) (B : Nat) (dE : Nat × Nat) (lim : Nat × Nat) (n : Nat) (M : gMem) (a0 : Nat) (x1 : Option Nat) (x2 : Int32) (hS : S_Co_caseOf cs lim n M a0 x1 x2) : cMet l y_Co_caseOf (Cond.code y_Co_caseOf c_Co_caseOf 6 (some .int)) (2) (43) D cs B dE (fun _ => False) lim [.ref a0, va_rf x1, .int x2] M (fun x M' => x = .inl (some (.int (F_Co_caseOf cs n M a0 x1 x2))) ∧ M' = M) := by
  refine cMet.ofW (by decide) (by cases x1 <;> exact Nat.le_of_ble_eq_true rfl) (lv0 := [(0, .ref a0), (1, va_rf x1), (2, .int x2)]) (by cases x1 <;> rfl) ?_
  intro p e s m args below meth c C hE hR0 hle hr hlocks hex hn
  generalize hF : F_Co_caseOf cs n M a0 x1 x2 = Fv
  unfold F_Co_caseOf at hF
  unfold S_Co_caseOf at hS
  refine q_aload_n (r := x1) C d_Co_caseOf_0 rfl ?_
  refine q_ifnonnull C 6 d_Co_caseOf_1 (by decide) (fun hc1 => ?_) (fun hc1 => ?_)
  · rw [if_neg hc1] at hF hS
    refine q_aload_n (r := x1) C d_Co_caseOf_6 rfl ?_
    obtain ⟨ho2, hS⟩ := hS
    refine GW.known1 (a := x1.getD 0) (cOq.at ho2).1 ?_
    refine c_getiN C hE.1 (ci := 11) i_Th rfl 1 (by decide) (by decide) (by decide) (gE_fN hE kf_Co_38) d_Co_caseOf_7 (cOq.at ho2).2 ?_
    refine g_istore_n (lv' := [(3, .int (cI M (x1.getD 0) 1)), (0, .ref a0), (1, va_rf x1), (2, .int x2)]) C d_Co_caseOf_10 (by decide) rfl ?_
    refine g_aload_n C d_Co_caseOf_11 rfl ?_
    refine g_iload_n C d_Co_caseOf_12 rfl ?_
    refine g_iconst (v := 4) C d_Co_caseOf_13 (by decide) ?_
    obtain ⟨ho3, hS⟩ := hS
    obtain ⟨hs4, hS⟩ := hS
    refine c_call (av := [.ref a0, .int (cI M (x1.getD 0) 1), .int 4]) (rest := []) C hE (fun _ h => h.elim) ⟨rfl, rfl⟩ hle (cc_Co_field l hf D cs B dE lim _ a0 (cI M (x1.getD 0) 1) 4 hs4) (fun _ h => h.elim) kd_Co_field ki_Co (Nat.le_of_ble_eq_true rfl) (Nat.le_of_ble_eq_true rfl) d_Co_caseOf_14 (Nat.le_of_ble_eq_true rfl) (c_fV (n := 2) (ci := 7) C hE.1 rfl km_Co_43 kv_Co_field kl_Co_field kd_Co_field ⟨by decide, by decide, by decide⟩ rfl rfl d_Co_caseOf_14 ho3) (fun v1 M1 hv hle => ?_) (fun E1 M1 hv hle => ?_)
    · rw [mbind_eq] at hF hS
      obtain ⟨hx, hM1⟩ := hv
      have hM2 := hM1.symm
      subst hM2
      generalize hq_w5 : F_Co_field cs M a0 (cI M (x1.getD 0) 1) 4 = w5 at hF hS hx hle ⊢
      cases hx
      refine GW.eqs (st' := [.int w5]) rfl ?_
      refine g_istore (lv' := [(4, .int w5), (3, .int (cI M (x1.getD 0) 1)), (0, .ref a0), (1, va_rf x1), (2, .int x2)]) C d_Co_caseOf_17 (by decide) rfl ?_
      refine g_iconst (v := 1) C d_Co_caseOf_19 (by decide) ?_
      refine g_istore (lv' := [(5, .int 1), (4, .int w5), (3, .int (cI M (x1.getD 0) 1)), (0, .ref a0), (1, va_rf x1), (2, .int x2)]) C d_Co_caseOf_20 (by decide) rfl ?_
      refine GW.subl [3, 4, 5, 2, 1, 0] rfl ?_
      exact w_Co_caseOf_22 C hE hf hr hlocks hex hn n M a0 x1 x2 (cI M (x1.getD 0) 1) w5 1 Fv hle hS hF
    · cases hv.1
  · rw [if_pos hc1] at hF hS
    refine g_iconst (v := (-1)) C d_Co_caseOf_4 (by decide) ?_
    exact c_iret (M := M) C hr hlocks hle d_Co_caseOf_5 (by rw [← hF]; exact ⟨rfl, rfl⟩)
def F_Fr_init (cs : Nat → ClassId) (M : gMem) (a0 : Nat) : gMem := cP 10 (cP 10 (gnw M (1, .inl (cs 0, (50 : Int32).toNatClampNeg, .inl (fun _ => 0))) (50 : Int32).toNatClampNeg) a0 0 (va_rf (some M.2.1))) a0 1 (.int 10)
def S_Fr_init (cs : Nat → ClassId) (lim : Nat × Nat) (M : gMem) (a0 : Nat) : Prop := ((¬ (50 : Int32) < 0 ∧ (50 : Int32).toNatClampNeg * 4 ≤ 536870912) ∧ M.2.1 + 1 ≤ lim.1 ∧ M.2.2 + (50 : Int32).toNatClampNeg ≤ lim.2) ∧ ((cOk 10 (gnw M (1, .inl (cs 0, (50 : Int32).toNatClampNeg, .inl (fun _ => 0))) (50 : Int32).toNatClampNeg) a0) ∧ ((cOk 10 (cP 10 (gnw M (1, .inl (cs 0, (50 : Int32).toNatClampNeg, .inl (fun _ => 0))) (50 : Int32).toNatClampNeg) a0 0 (va_rf (some M.2.1))) a0) ∧ (True)))
set_option maxRecDepth 100000 in
set_option maxHeartbeats 4000000 in
theorem cc_Fr_init (l : Launch) (hf : l.flags = pinnedFlags ++ [noTraceFlag]) (D : va_G) (cs : Nat → ClassId) (B : Nat) (dE : Nat × Nat) (lim : Nat × Nat) (M : gMem) (a0 : Nat) (hS : S_Fr_init cs lim M a0) : cMet l y_Fr_init (Cond.code y_Fr_init c_Fr_init 1 none) (1) (20) D cs B dE (gA B) lim [.ref a0] M (fun x M' => x = .inl none ∧ M' = (F_Fr_init cs M a0)) := by
  refine cMet.ofW (by decide) (Nat.le_of_ble_eq_true rfl) (lv0 := [(0, .ref a0)]) rfl ?_
  intro p e s m args below meth c C hE hR0 hle hr hlocks hex hn
  generalize hF : F_Fr_init cs M a0 = Fv
  unfold F_Fr_init at hF
  unfold S_Fr_init at hS
  refine g_aload_n C d_Fr_init_0 rfl ?_
  refine g_objInit C km_Fr_3 kv_Ob_init kd_Ob_init d_Fr_init_1 (Nat.le_of_ble_eq_true rfl) (Nat.le_of_ble_eq_true rfl) ?_
  refine g_aload_n C d_Fr_init_4 rfl ?_
  refine g_bipush (v := 50) C d_Fr_init_5 (by decide) ?_
  refine GW.more (A' := gA B) (fun _ h => h.elim) ?_
  obtain ⟨hl1, hS⟩ := hS
  refine c_newi (M0 := M) (M := M) C hE.1 ⟨rfl, rfl⟩ hle hl1.1.1 hl1.1.2 d_Fr_init_7 hl1.2 (fun hle => ?_)
  obtain ⟨ho3, hS⟩ := hS
  refine GW.eqs (st' := [va_rf (some M.2.1), .ref a0]) rfl ?_
  refine k_putF (M0 := M) (M := gnw M (1, .inl (cs 0, (50 : Int32).toNatClampNeg, .inl (fun _ => 0))) (50 : Int32).toNatClampNeg) C hE.1 (ci := 10) i_Fr rfl 0 (by decide) (by decide) kf_Fr_9 t_Fr t_Fr_ok n_Fr rfl hn rfl (nf_q _ (Or.inr ⟨_, rfl⟩) _) d_Fr_init_9 ho3 ?_
  replace hle := cLe.cP (ci := 10) (a := a0) (k := 0) (v := va_rf (some M.2.1)) hle
  refine g_aload_n C d_Fr_init_12 rfl ?_
  refine g_bipush (v := 10) C d_Fr_init_13 (by decide) ?_
  obtain ⟨ho4, hS⟩ := hS
  refine k_put (M0 := M) (M := cP 10 (gnw M (1, .inl (cs 0, (50 : Int32).toNatClampNeg, .inl (fun _ => 0))) (50 : Int32).toNatClampNeg) a0 0 (va_rf (some M.2.1))) C hE.1 (ci := 10) i_Fr rfl 1 (by decide) (by decide) kf_Fr_15 t_Fr t_Fr_ok n_Fr rfl (nf_i _) d_Fr_init_15 ho4 ?_
  replace hle := cLe.cP (ci := 10) (a := a0) (k := 1) (v := .int 10) hle
  exact c_vret (M := cP 10 (cP 10 (gnw M (1, .inl (cs 0, (50 : Int32).toNatClampNeg, .inl (fun _ => 0))) (50 : Int32).toNatClampNeg) a0 0 (va_rf (some M.2.1))) a0 1 (.int 10)) C hr hlocks hle d_Fr_init_18 (by rw [← hF]; exact ⟨rfl, rfl⟩)
def F_Fr_open (cs : Nat → ClassId) (M : gMem) (a0 : Nat) (x1 : Option Nat) (x2 : Int32) : gMem := if x1 = none then (cP 10 (cP 10 (cP 10 M a0 2 (.int x2)) a0 1 (.int 10)) a0 3 (va_rf (none : Option Nat))) else (cP 10 (cP 10 (cP 10 (aCp (cs 0) M ((cQ M (x1.getD 0) 0).getD 0) ((cQ M a0 0).getD 0) (0 : Int32).toNatClampNeg (0 : Int32).toNatClampNeg (10 : Int32).toNatClampNeg) a0 2 (.int x2)) a0 1 (.int 10)) a0 3 (va_rf (none : Option Nat)))
def S_Fr_open (cs : Nat → ClassId) (lim : Nat × Nat) (M : gMem) (a0 : Nat) (x1 : Option Nat) (x2 : Int32) : Prop := if x1 = none then ((cOk 10 M a0) ∧ ((cOk 10 (cP 10 M a0 2 (.int x2)) a0) ∧ ((cOk 10 (cP 10 (cP 10 M a0 2 (.int x2)) a0 1 (.int 10)) a0) ∧ (True)))) else ((cOq 11 M x1) ∧ ((cOk 10 M a0) ∧ ((cQ M (x1.getD 0) 0 = some ((cQ M (x1.getD 0) 0).getD 0) ∧ aIk (cs 0) M ((cQ M (x1.getD 0) 0).getD 0)) ∧ ((cQ M a0 0 = some ((cQ M a0 0).getD 0) ∧ aIk (cs 0) M ((cQ M a0 0).getD 0)) ∧ (((¬ (0 : Int32) < 0 ∧ ¬ (0 : Int32) < 0 ∧ ¬ (10 : Int32) < 0) ∧ (0 : Int32).toNatClampNeg + (10 : Int32).toNatClampNeg ≤ aL M ((cQ M (x1.getD 0) 0).getD 0) ∧ (0 : Int32).toNatClampNeg + (10 : Int32).toNatClampNeg ≤ aL M ((cQ M a0 0).getD 0)) ∧ ((cOk 10 (aCp (cs 0) M ((cQ M (x1.getD 0) 0).getD 0) ((cQ M a0 0).getD 0) (0 : Int32).toNatClampNeg (0 : Int32).toNatClampNeg (10 : Int32).toNatClampNeg) a0) ∧ ((cOk 10 (cP 10 (aCp (cs 0) M ((cQ M (x1.getD 0) 0).getD 0) ((cQ M a0 0).getD 0) (0 : Int32).toNatClampNeg (0 : Int32).toNatClampNeg (10 : Int32).toNatClampNeg) a0 2 (.int x2)) a0) ∧ ((cOk 10 (cP 10 (cP 10 (aCp (cs 0) M ((cQ M (x1.getD 0) 0).getD 0) ((cQ M a0 0).getD 0) (0 : Int32).toNatClampNeg (0 : Int32).toNatClampNeg (10 : Int32).toNatClampNeg) a0 2 (.int x2)) a0 1 (.int 10)) a0) ∧ (True)))))))))
set_option maxRecDepth 100000 in
set_option maxHeartbeats 4000000 in
theorem cc_Fr_open (l : Launch) (hf : l.flags = pinnedFlags ++ [noTraceFlag]) (D : va_G) (cs : Nat → ClassId) (B : Nat) (dE : Nat × Nat) (lim : Nat × Nat) (M : gMem) (a0 : Nat) (x1 : Option Nat) (x2 : Int32) (hS : S_Fr_open cs lim M a0 x1 x2) : cMet l y_Fr_open (Cond.code y_Fr_open c_Fr_open 3 none) (1) (60) D cs B dE (gA B) lim [.ref a0, va_rf x1, .int x2] M (fun x M' => x = .inl none ∧ M' = (F_Fr_open cs M a0 x1 x2)) := by
  refine cMet.ofW (by decide) (by cases x1 <;> exact Nat.le_of_ble_eq_true rfl) (lv0 := [(0, .ref a0), (1, va_rf x1), (2, .int x2)]) (by cases x1 <;> rfl) ?_
  intro p e s m args below meth c C hE hR0 hle hr hlocks hex hn
  generalize hF : F_Fr_open cs M a0 x1 x2 = Fv
  unfold F_Fr_open at hF
  unfold S_Fr_open at hS
  refine q_aload_n (r := x1) C d_Fr_open_0 rfl ?_
  refine q_ifnull C 19 d_Fr_open_1 (by decide) (fun hc1 => ?_) (fun hc1 => ?_)
  · rw [if_pos hc1] at hF hS
    refine g_aload_n C d_Fr_open_19 rfl ?_
    refine g_iload_n C d_Fr_open_20 rfl ?_
    refine GW.more (A' := gA B) (fun _ h => h.elim) ?_
    obtain ⟨ho2, hS⟩ := hS
    refine k_put (M0 := M) (M := M) C hE.1 (ci := 10) i_Fr rfl 2 (by decide) (by decide) kf_Fr_30 t_Fr t_Fr_ok n_Fr rfl (nf_i _) d_Fr_open_21 ho2 ?_
    replace hle := cLe.cP (ci := 10) (a := a0) (k := 2) (v := .int x2) hle
    refine g_aload_n C d_Fr_open_24 rfl ?_
    refine g_bipush (v := 10) C d_Fr_open_25 (by decide) ?_
    obtain ⟨ho3, hS⟩ := hS
    refine k_put (M0 := M) (M := cP 10 M a0 2 (.int x2)) C hE.1 (ci := 10) i_Fr rfl 1 (by decide) (by decide) kf_Fr_15 t_Fr t_Fr_ok n_Fr rfl (nf_i _) d_Fr_open_27 ho3 ?_
    replace hle := cLe.cP (ci := 10) (a := a0) (k := 1) (v := .int 10) hle
    refine g_aload_n C d_Fr_open_30 rfl ?_
    refine g_null C d_Fr_open_31 ?_
    refine GW.eqs (st' := [va_rf (none : Option Nat), .ref a0]) rfl ?_
    obtain ⟨ho4, hS⟩ := hS
    refine k_put (M0 := M) (M := cP 10 (cP 10 M a0 2 (.int x2)) a0 1 (.int 10)) C hE.1 (ci := 10) i_Fr rfl 3 (by decide) (by decide) kf_Fr_33 t_Fr t_Fr_ok n_Fr rfl (nf_q _ (Or.inl ⟨_, rfl⟩) _) d_Fr_open_32 ho4 ?_
    replace hle := cLe.cP (ci := 10) (a := a0) (k := 3) (v := va_rf (none : Option Nat)) hle
    exact c_vret (M := cP 10 (cP 10 (cP 10 M a0 2 (.int x2)) a0 1 (.int 10)) a0 3 (va_rf (none : Option Nat))) C hr hlocks hle d_Fr_open_35 (by rw [← hF]; exact ⟨rfl, rfl⟩)
  · rw [if_neg hc1] at hF hS
    refine q_aload_n (r := x1) C d_Fr_open_4 rfl ?_
    obtain ⟨ho5, hS⟩ := hS
    refine GW.known1 (a := x1.getD 0) (cOq.at ho5).1 ?_
    refine c_getqN C hE.1 (ci := 11) i_Th rfl 0 (by decide) (by decide) (by decide) (gE_fN hE kf_Fr_19) d_Fr_open_5 (cOq.at ho5).2 ?_
    refine g_iconst (v := 0) C d_Fr_open_8 (by decide) ?_
    refine g_aload_n C d_Fr_open_9 rfl ?_
    obtain ⟨ho6, hS⟩ := hS
    refine c_getq C hE.1 (ci := 10) i_Fr rfl 0 (by decide) (by decide) (by decide) kf_Fr_9 d_Fr_open_10 ho6 ?_
    refine g_iconst (v := 0) C d_Fr_open_13 (by decide) ?_
    refine g_bipush (v := 10) C d_Fr_open_14 (by decide) ?_
    refine GW.more (A' := gA B) (fun _ h => h.elim) ?_
    obtain ⟨ha7, hS⟩ := hS
    refine GW.known5 (a := (cQ M (x1.getD 0) 0).getD 0) ha7.1 ?_
    obtain ⟨ha8, hS⟩ := hS
    refine GW.known3 (a := (cQ M a0 0).getD 0) ha8.1 ?_
    obtain ⟨hy9, hS⟩ := hS
    refine k_copyi (M0 := M) (M := M) C hE.1 km_Fr_24 kt_Sy_arraycopy_x584 ks_Sy_arraycopy_x583 ki_Sy d_Fr_open_16 ha7.2 ha8.2 hy9 (Nat.le_of_ble_eq_true rfl) (Nat.le_of_ble_eq_true rfl) ?_
    replace hle := cLe.aCp (cA := cs 0) (a0 := (cQ M (x1.getD 0) 0).getD 0) (a := (cQ M a0 0).getD 0) (sp := (0 : Int32).toNatClampNeg) (dp := (0 : Int32).toNatClampNeg) (n := (10 : Int32).toNatClampNeg) hle
    refine g_aload_n C d_Fr_open_19 rfl ?_
    refine g_iload_n C d_Fr_open_20 rfl ?_
    obtain ⟨ho10, hS⟩ := hS
    refine k_put (M0 := M) (M := aCp (cs 0) M ((cQ M (x1.getD 0) 0).getD 0) ((cQ M a0 0).getD 0) (0 : Int32).toNatClampNeg (0 : Int32).toNatClampNeg (10 : Int32).toNatClampNeg) C hE.1 (ci := 10) i_Fr rfl 2 (by decide) (by decide) kf_Fr_30 t_Fr t_Fr_ok n_Fr rfl (nf_i _) d_Fr_open_21 ho10 ?_
    replace hle := cLe.cP (ci := 10) (a := a0) (k := 2) (v := .int x2) hle
    refine g_aload_n C d_Fr_open_24 rfl ?_
    refine g_bipush (v := 10) C d_Fr_open_25 (by decide) ?_
    obtain ⟨ho11, hS⟩ := hS
    refine k_put (M0 := M) (M := cP 10 (aCp (cs 0) M ((cQ M (x1.getD 0) 0).getD 0) ((cQ M a0 0).getD 0) (0 : Int32).toNatClampNeg (0 : Int32).toNatClampNeg (10 : Int32).toNatClampNeg) a0 2 (.int x2)) C hE.1 (ci := 10) i_Fr rfl 1 (by decide) (by decide) kf_Fr_15 t_Fr t_Fr_ok n_Fr rfl (nf_i _) d_Fr_open_27 ho11 ?_
    replace hle := cLe.cP (ci := 10) (a := a0) (k := 1) (v := .int 10) hle
    refine g_aload_n C d_Fr_open_30 rfl ?_
    refine g_null C d_Fr_open_31 ?_
    refine GW.eqs (st' := [va_rf (none : Option Nat), .ref a0]) rfl ?_
    obtain ⟨ho12, hS⟩ := hS
    refine k_put (M0 := M) (M := cP 10 (cP 10 (aCp (cs 0) M ((cQ M (x1.getD 0) 0).getD 0) ((cQ M a0 0).getD 0) (0 : Int32).toNatClampNeg (0 : Int32).toNatClampNeg (10 : Int32).toNatClampNeg) a0 2 (.int x2)) a0 1 (.int 10)) C hE.1 (ci := 10) i_Fr rfl 3 (by decide) (by decide) kf_Fr_33 t_Fr t_Fr_ok n_Fr rfl (nf_q _ (Or.inl ⟨_, rfl⟩) _) d_Fr_open_32 ho12 ?_
    replace hle := cLe.cP (ci := 10) (a := a0) (k := 3) (v := va_rf (none : Option Nat)) hle
    exact c_vret (M := cP 10 (cP 10 (cP 10 (aCp (cs 0) M ((cQ M (x1.getD 0) 0).getD 0) ((cQ M a0 0).getD 0) (0 : Int32).toNatClampNeg (0 : Int32).toNatClampNeg (10 : Int32).toNatClampNeg) a0 2 (.int x2)) a0 1 (.int 10)) a0 3 (va_rf (none : Option Nat))) C hr hlocks hle d_Fr_open_35 (by rw [← hF]; exact ⟨rfl, rfl⟩)
def F_Fr_keepNames (cs : Nat → ClassId) (M : gMem) (a0 : Nat) (x1 : Option Nat) : gMem := aCp (cs 0) M ((cQ M a0 0).getD 0) ((cQ M (x1.getD 0) 0).getD 0) (0 : Int32).toNatClampNeg (0 : Int32).toNatClampNeg (10 : Int32).toNatClampNeg
def S_Fr_keepNames (cs : Nat → ClassId) (lim : Nat × Nat) (M : gMem) (a0 : Nat) (x1 : Option Nat) : Prop := (cOk 10 M a0) ∧ ((cOq 11 M x1) ∧ ((cQ M a0 0 = some ((cQ M a0 0).getD 0) ∧ aIk (cs 0) M ((cQ M a0 0).getD 0)) ∧ ((cQ M (x1.getD 0) 0 = some ((cQ M (x1.getD 0) 0).getD 0) ∧ aIk (cs 0) M ((cQ M (x1.getD 0) 0).getD 0)) ∧ (((¬ (0 : Int32) < 0 ∧ ¬ (0 : Int32) < 0 ∧ ¬ (10 : Int32) < 0) ∧ (0 : Int32).toNatClampNeg + (10 : Int32).toNatClampNeg ≤ aL M ((cQ M a0 0).getD 0) ∧ (0 : Int32).toNatClampNeg + (10 : Int32).toNatClampNeg ≤ aL M ((cQ M (x1.getD 0) 0).getD 0)) ∧ (True)))))
set_option maxRecDepth 100000 in
set_option maxHeartbeats 4000000 in
theorem cc_Fr_keepNames (l : Launch) (hf : l.flags = pinnedFlags ++ [noTraceFlag]) (D : va_G) (cs : Nat → ClassId) (B : Nat) (dE : Nat × Nat) (lim : Nat × Nat) (M : gMem) (a0 : Nat) (x1 : Option Nat) (hS : S_Fr_keepNames cs lim M a0 x1) : cMet l y_Fr_keepNames (Cond.code y_Fr_keepNames c_Fr_keepNames 2 none) (1) (60) D cs B dE (gA B) lim [.ref a0, va_rf x1] M (fun x M' => x = .inl none ∧ M' = (F_Fr_keepNames cs M a0 x1)) := by
  refine cMet.ofW (by decide) (by cases x1 <;> exact Nat.le_of_ble_eq_true rfl) (lv0 := [(0, .ref a0), (1, va_rf x1)]) (by cases x1 <;> rfl) ?_
  intro p e s m args below meth c C hE hR0 hle hr hlocks hex hn
  generalize hF : F_Fr_keepNames cs M a0 x1 = Fv
  unfold F_Fr_keepNames at hF
  unfold S_Fr_keepNames at hS
  refine g_aload_n C d_Fr_keepNames_0 rfl ?_
  obtain ⟨ho1, hS⟩ := hS
  refine c_getq C hE.1 (ci := 10) i_Fr rfl 0 (by decide) (by decide) (by decide) kf_Fr_9 d_Fr_keepNames_1 ho1 ?_
  refine g_iconst (v := 0) C d_Fr_keepNames_4 (by decide) ?_
  refine q_aload_n (r := x1) C d_Fr_keepNames_5 rfl ?_
  obtain ⟨ho2, hS⟩ := hS
  refine GW.known1 (a := x1.getD 0) (cOq.at ho2).1 ?_
  refine c_getqN C hE.1 (ci := 11) i_Th rfl 0 (by decide) (by decide) (by decide) (gE_fN hE kf_Fr_19) d_Fr_keepNames_6 (cOq.at ho2).2 ?_
  refine g_iconst (v := 0) C d_Fr_keepNames_9 (by decide) ?_
  refine g_bipush (v := 10) C d_Fr_keepNames_10 (by decide) ?_
  refine GW.more (A' := gA B) (fun _ h => h.elim) ?_
  obtain ⟨ha3, hS⟩ := hS
  refine GW.known5 (a := (cQ M a0 0).getD 0) ha3.1 ?_
  obtain ⟨ha4, hS⟩ := hS
  refine GW.known3 (a := (cQ M (x1.getD 0) 0).getD 0) ha4.1 ?_
  obtain ⟨hy5, hS⟩ := hS
  refine k_copyi (M0 := M) (M := M) C hE.1 km_Fr_24 kt_Sy_arraycopy_x584 ks_Sy_arraycopy_x583 ki_Sy d_Fr_keepNames_12 ha3.2 ha4.2 hy5 (Nat.le_of_ble_eq_true rfl) (Nat.le_of_ble_eq_true rfl) ?_
  replace hle := cLe.aCp (cA := cs 0) (a0 := (cQ M a0 0).getD 0) (a := (cQ M (x1.getD 0) 0).getD 0) (sp := (0 : Int32).toNatClampNeg) (dp := (0 : Int32).toNatClampNeg) (n := (10 : Int32).toNatClampNeg) hle
  exact c_vret (M := aCp (cs 0) M ((cQ M a0 0).getD 0) ((cQ M (x1.getD 0) 0).getD 0) (0 : Int32).toNatClampNeg (0 : Int32).toNatClampNeg (10 : Int32).toNatClampNeg) C hr hlocks hle d_Fr_keepNames_15 (by rw [← hF]; exact ⟨rfl, rfl⟩)
def F_Fr_valueOf (cs : Nat → ClassId) (M : gMem) (a0 : Nat) (x1 : Int32) : Int32 := if x1 < 0 then (0) else (if 10 ≤ x1 then (0) else (aF M ((cQ M a0 0).getD 0) x1.toNatClampNeg))
def S_Fr_valueOf (cs : Nat → ClassId) (lim : Nat × Nat) (M : gMem) (a0 : Nat) (x1 : Int32) : Prop := if x1 < 0 then (True) else (if 10 ≤ x1 then (True) else ((cOk 10 M a0) ∧ ((cQ M a0 0 = some ((cQ M a0 0).getD 0) ∧ aIk (cs 0) M ((cQ M a0 0).getD 0)) ∧ ((vp_in x1 (aL M ((cQ M a0 0).getD 0))) ∧ (True)))))
set_option maxRecDepth 100000 in
set_option maxHeartbeats 4000000 in
theorem cc_Fr_valueOf (l : Launch) (hf : l.flags = pinnedFlags ++ [noTraceFlag]) (D : va_G) (cs : Nat → ClassId) (B : Nat) (dE : Nat × Nat) (lim : Nat × Nat) (M : gMem) (a0 : Nat) (x1 : Int32) (hS : S_Fr_valueOf cs lim M a0 x1) : cMet l y_Fr_valueOf (Cond.code y_Fr_valueOf c_Fr_valueOf 2 (some .int)) (0) (0) D cs B dE (fun _ => False) lim [.ref a0, .int x1] M (fun x M' => x = .inl (some (.int (F_Fr_valueOf cs M a0 x1))) ∧ M' = M) := by
  refine cMet.ofW (by decide) (Nat.le_of_ble_eq_true rfl) (lv0 := [(0, .ref a0), (1, .int x1)]) rfl ?_
  intro p e s m args below meth c C hE hR0 hle hr hlocks hex hn
  generalize hF : F_Fr_valueOf cs M a0 x1 = Fv
  unfold F_Fr_valueOf at hF
  unfold S_Fr_valueOf at hS
  refine g_iload_n C d_Fr_valueOf_0 rfl ?_
  refine g_if_lt C 19 d_Fr_valueOf_1 (by decide) (fun hc1 => ?_) (fun hc1 => ?_)
  · rw [if_pos hc1] at hF hS
    refine g_iconst (v := 0) C d_Fr_valueOf_19 (by decide) ?_
    exact c_iret (M := M) C hr hlocks hle d_Fr_valueOf_20 (by rw [← hF]; exact ⟨rfl, rfl⟩)
  · rw [if_neg hc1] at hF hS
    refine g_iload_n C d_Fr_valueOf_4 rfl ?_
    refine g_bipush (v := 10) C d_Fr_valueOf_5 (by decide) ?_
    refine g_icmp_ge C 19 d_Fr_valueOf_7 (by decide) (fun hc2 => ?_) (fun hc2 => ?_)
    · rw [if_pos hc2] at hF hS
      refine g_iconst (v := 0) C d_Fr_valueOf_19 (by decide) ?_
      exact c_iret (M := M) C hr hlocks hle d_Fr_valueOf_20 (by rw [← hF]; exact ⟨rfl, rfl⟩)
    · rw [if_neg hc2] at hF hS
      refine g_aload_n C d_Fr_valueOf_10 rfl ?_
      obtain ⟨ho3, hS⟩ := hS
      refine c_getq C hE.1 (ci := 10) i_Fr rfl 0 (by decide) (by decide) (by decide) kf_Fr_9 d_Fr_valueOf_11 ho3 ?_
      refine g_iload_n C d_Fr_valueOf_14 rfl ?_
      obtain ⟨ha4, hS⟩ := hS
      refine GW.known2 (a := (cQ M a0 0).getD 0) ha4.1 ?_
      obtain ⟨hi5, hS⟩ := hS
      refine c_iald C hE.1 d_Fr_valueOf_15 ha4.2 hi5 ?_
      refine g_goto C 20 d_Fr_valueOf_16 (by decide) ?_
      exact c_iret (M := M) C hr hlocks hle d_Fr_valueOf_20 (by rw [← hF]; exact ⟨rfl, rfl⟩)
def F_Fr_give (cs : Nat → ClassId) (M : gMem) (a0 : Nat) (x1 : Int32) (x2 : Int32) : gMem := if x1 < 0 then (M) else (if 10 ≤ x1 then (M) else (aPi (cs 0) M ((cQ M a0 0).getD 0) x1.toNatClampNeg x2))
def S_Fr_give (cs : Nat → ClassId) (lim : Nat × Nat) (M : gMem) (a0 : Nat) (x1 : Int32) (x2 : Int32) : Prop := if x1 < 0 then (True) else (if 10 ≤ x1 then (True) else ((cOk 10 M a0) ∧ ((cQ M a0 0 = some ((cQ M a0 0).getD 0) ∧ aIk (cs 0) M ((cQ M a0 0).getD 0)) ∧ ((vp_in x1 (aL M ((cQ M a0 0).getD 0))) ∧ (True)))))
set_option maxRecDepth 100000 in
set_option maxHeartbeats 4000000 in
theorem cc_Fr_give (l : Launch) (hf : l.flags = pinnedFlags ++ [noTraceFlag]) (D : va_G) (cs : Nat → ClassId) (B : Nat) (dE : Nat × Nat) (lim : Nat × Nat) (M : gMem) (a0 : Nat) (x1 : Int32) (x2 : Int32) (hS : S_Fr_give cs lim M a0 x1 x2) : cMet l y_Fr_give (Cond.code y_Fr_give c_Fr_give 3 none) (0) (0) D cs B dE (gA B) lim [.ref a0, .int x1, .int x2] M (fun x M' => x = .inl none ∧ M' = (F_Fr_give cs M a0 x1 x2)) := by
  refine cMet.ofW (by decide) (Nat.le_of_ble_eq_true rfl) (lv0 := [(0, .ref a0), (1, .int x1), (2, .int x2)]) rfl ?_
  intro p e s m args below meth c C hE hR0 hle hr hlocks hex hn
  generalize hF : F_Fr_give cs M a0 x1 x2 = Fv
  unfold F_Fr_give at hF
  unfold S_Fr_give at hS
  refine g_iload_n C d_Fr_give_0 rfl ?_
  refine g_if_lt C 17 d_Fr_give_1 (by decide) (fun hc1 => ?_) (fun hc1 => ?_)
  · rw [if_pos hc1] at hF hS
    refine GW.more (A' := gA B) (fun _ h => h.elim) ?_
    exact c_vret (M := M) C hr hlocks hle d_Fr_give_17 (by rw [← hF]; exact ⟨rfl, rfl⟩)
  · rw [if_neg hc1] at hF hS
    refine g_iload_n C d_Fr_give_4 rfl ?_
    refine g_bipush (v := 10) C d_Fr_give_5 (by decide) ?_
    refine g_icmp_ge C 17 d_Fr_give_7 (by decide) (fun hc2 => ?_) (fun hc2 => ?_)
    · rw [if_pos hc2] at hF hS
      refine GW.more (A' := gA B) (fun _ h => h.elim) ?_
      exact c_vret (M := M) C hr hlocks hle d_Fr_give_17 (by rw [← hF]; exact ⟨rfl, rfl⟩)
    · rw [if_neg hc2] at hF hS
      refine g_aload_n C d_Fr_give_10 rfl ?_
      obtain ⟨ho3, hS⟩ := hS
      refine c_getq C hE.1 (ci := 10) i_Fr rfl 0 (by decide) (by decide) (by decide) kf_Fr_9 d_Fr_give_11 ho3 ?_
      refine g_iload_n C d_Fr_give_14 rfl ?_
      refine g_iload_n C d_Fr_give_15 rfl ?_
      refine GW.more (A' := gA B) (fun _ h => h.elim) ?_
      obtain ⟨ha4, hS⟩ := hS
      refine GW.known3 (a := (cQ M a0 0).getD 0) ha4.1 ?_
      obtain ⟨hi5, hS⟩ := hS
      refine k_iast (M0 := M) (M := M) C hE.1 d_Fr_give_16 ha4.2 hi5 ?_
      replace hle := cLe.aPi (cA := cs 0) (a := (cQ M a0 0).getD 0) (i := x1.toNatClampNeg) (x := x2) hle
      exact c_vret (M := aPi (cs 0) M ((cQ M a0 0).getD 0) x1.toNatClampNeg x2) C hr hlocks hle d_Fr_give_17 (by rw [← hF]; exact ⟨rfl, rfl⟩)
def F_Fr_push (cs : Nat → ClassId) (M : gMem) (a0 : Nat) (x1 : Int32) : gMem := if (nI (aL M ((cQ M a0 0).getD 0))) ≤ (cI M a0 1) then (M) else (cP 10 (aPi (cs 0) M ((cQ M a0 0).getD 0) (cI M a0 1).toNatClampNeg x1) a0 1 (.int ((cI (aPi (cs 0) M ((cQ M a0 0).getD 0) (cI M a0 1).toNatClampNeg x1) a0 1) + 1)))
def S_Fr_push (cs : Nat → ClassId) (lim : Nat × Nat) (M : gMem) (a0 : Nat) (x1 : Int32) : Prop := (cOk 10 M a0) ∧ ((cOk 10 M a0) ∧ ((cQ M a0 0 = some ((cQ M a0 0).getD 0) ∧ ∃ x, M.1 ((cQ M a0 0).getD 0) = some (1, .inl (cs 0, x))) ∧ (if (nI (aL M ((cQ M a0 0).getD 0))) ≤ (cI M a0 1) then (True) else ((cOk 10 M a0) ∧ ((cOk 10 M a0) ∧ ((cQ M a0 0 = some ((cQ M a0 0).getD 0) ∧ aIk (cs 0) M ((cQ M a0 0).getD 0)) ∧ ((vp_in (cI M a0 1) (aL M ((cQ M a0 0).getD 0))) ∧ ((cOk 10 (aPi (cs 0) M ((cQ M a0 0).getD 0) (cI M a0 1).toNatClampNeg x1) a0) ∧ ((cOk 10 (aPi (cs 0) M ((cQ M a0 0).getD 0) (cI M a0 1).toNatClampNeg x1) a0) ∧ (True))))))))))
set_option maxRecDepth 100000 in
set_option maxHeartbeats 4000000 in
theorem cc_Fr_push (l : Launch) (hf : l.flags = pinnedFlags ++ [noTraceFlag]) (D : va_G) (cs : Nat → ClassId) (B : Nat) (dE : Nat × Nat) (lim : Nat × Nat) (M : gMem) (a0 : Nat) (x1 : Int32) (hS : S_Fr_push cs lim M a0 x1) : cMet l y_Fr_push (Cond.code y_Fr_push c_Fr_push 2 none) (0) (0) D cs B dE (gA B) lim [.ref a0, .int x1] M (fun x M' => x = .inl none ∧ M' = (F_Fr_push cs M a0 x1)) := by
  refine cMet.ofW (by decide) (Nat.le_of_ble_eq_true rfl) (lv0 := [(0, .ref a0), (1, .int x1)]) rfl ?_
  intro p e s m args below meth c C hE hR0 hle hr hlocks hex hn
  generalize hF : F_Fr_push cs M a0 x1 = Fv
  unfold F_Fr_push at hF
  unfold S_Fr_push at hS
  refine g_aload_n C d_Fr_push_0 rfl ?_
  obtain ⟨ho1, hS⟩ := hS
  refine c_geti C hE.1 (ci := 10) i_Fr rfl 1 (by decide) (by decide) (by decide) kf_Fr_15 d_Fr_push_1 ho1 ?_
  refine g_aload_n C d_Fr_push_4 rfl ?_
  obtain ⟨ho2, hS⟩ := hS
  refine c_getq C hE.1 (ci := 10) i_Fr rfl 0 (by decide) (by decide) (by decide) kf_Fr_9 d_Fr_push_5 ho2 ?_
  obtain ⟨ha3, hS⟩ := hS
  refine GW.known1 (a := (cQ M a0 0).getD 0) ha3.1 ?_
  refine c_alen C hE.1 0 rfl d_Fr_push_8 ha3.2 ?_
  refine g_icmp_ge C 32 d_Fr_push_9 (by decide) (fun hc4 => ?_) (fun hc4 => ?_)
  · rw [if_pos hc4] at hF hS
    refine GW.more (A' := gA B) (fun _ h => h.elim) ?_
    exact c_vret (M := M) C hr hlocks hle d_Fr_push_32 (by rw [← hF]; exact ⟨rfl, rfl⟩)
  · rw [if_neg hc4] at hF hS
    refine g_aload_n C d_Fr_push_12 rfl ?_
    obtain ⟨ho5, hS⟩ := hS
    refine c_getq C hE.1 (ci := 10) i_Fr rfl 0 (by decide) (by decide) (by decide) kf_Fr_9 d_Fr_push_13 ho5 ?_
    refine g_aload_n C d_Fr_push_16 rfl ?_
    obtain ⟨ho6, hS⟩ := hS
    refine c_geti C hE.1 (ci := 10) i_Fr rfl 1 (by decide) (by decide) (by decide) kf_Fr_15 d_Fr_push_17 ho6 ?_
    refine g_iload_n C d_Fr_push_20 rfl ?_
    refine GW.more (A' := gA B) (fun _ h => h.elim) ?_
    obtain ⟨ha7, hS⟩ := hS
    refine GW.known3 (a := (cQ M a0 0).getD 0) ha7.1 ?_
    obtain ⟨hi8, hS⟩ := hS
    refine k_iast (M0 := M) (M := M) C hE.1 d_Fr_push_21 ha7.2 hi8 ?_
    replace hle := cLe.aPi (cA := cs 0) (a := (cQ M a0 0).getD 0) (i := (cI M a0 1).toNatClampNeg) (x := x1) hle
    refine g_aload_n C d_Fr_push_22 rfl ?_
    refine g_dup C d_Fr_push_23 rfl ?_
    obtain ⟨ho9, hS⟩ := hS
    refine c_geti C hE.1 (ci := 10) i_Fr rfl 1 (by decide) (by decide) (by decide) kf_Fr_15 d_Fr_push_24 ho9 ?_
    refine g_iconst (v := 1) C d_Fr_push_27 (by decide) ?_
    refine g_iadd C d_Fr_push_28 ?_
    obtain ⟨ho10, hS⟩ := hS
    refine k_put (M0 := M) (M := aPi (cs 0) M ((cQ M a0 0).getD 0) (cI M a0 1).toNatClampNeg x1) C hE.1 (ci := 10) i_Fr rfl 1 (by decide) (by decide) kf_Fr_15 t_Fr t_Fr_ok n_Fr rfl (nf_i _) d_Fr_push_29 ho10 ?_
    replace hle := cLe.cP (ci := 10) (a := a0) (k := 1) (v := .int ((cI (aPi (cs 0) M ((cQ M a0 0).getD 0) (cI M a0 1).toNatClampNeg x1) a0 1) + 1)) hle
    exact c_vret (M := cP 10 (aPi (cs 0) M ((cQ M a0 0).getD 0) (cI M a0 1).toNatClampNeg x1) a0 1 (.int ((cI (aPi (cs 0) M ((cQ M a0 0).getD 0) (cI M a0 1).toNatClampNeg x1) a0 1) + 1))) C hr hlocks hle d_Fr_push_32 (by rw [← hF]; exact ⟨rfl, rfl⟩)
def F_Fr_pop (cs : Nat → ClassId) (M : gMem) (a0 : Nat) : Int32 × gMem := if 10 < (cI M a0 1) then ((aF (cP 10 M a0 1 (.int ((cI M a0 1) - 1))) ((cQ (cP 10 M a0 1 (.int ((cI M a0 1) - 1))) a0 0).getD 0) (cI (cP 10 M a0 1 (.int ((cI M a0 1) - 1))) a0 1).toNatClampNeg, cP 10 M a0 1 (.int ((cI M a0 1) - 1)))) else ((0, M))
def S_Fr_pop (cs : Nat → ClassId) (lim : Nat × Nat) (M : gMem) (a0 : Nat) : Prop := (cOk 10 M a0) ∧ (if 10 < (cI M a0 1) then ((cOk 10 M a0) ∧ ((cOk 10 M a0) ∧ ((cOk 10 (cP 10 M a0 1 (.int ((cI M a0 1) - 1))) a0) ∧ ((cOk 10 (cP 10 M a0 1 (.int ((cI M a0 1) - 1))) a0) ∧ ((cQ (cP 10 M a0 1 (.int ((cI M a0 1) - 1))) a0 0 = some ((cQ (cP 10 M a0 1 (.int ((cI M a0 1) - 1))) a0 0).getD 0) ∧ aIk (cs 0) (cP 10 M a0 1 (.int ((cI M a0 1) - 1))) ((cQ (cP 10 M a0 1 (.int ((cI M a0 1) - 1))) a0 0).getD 0)) ∧ ((vp_in (cI (cP 10 M a0 1 (.int ((cI M a0 1) - 1))) a0 1) (aL (cP 10 M a0 1 (.int ((cI M a0 1) - 1))) ((cQ (cP 10 M a0 1 (.int ((cI M a0 1) - 1))) a0 0).getD 0))) ∧ (True))))))) else (True))
set_option maxRecDepth 100000 in
set_option maxHeartbeats 4000000 in
theorem cc_Fr_pop (l : Launch) (hf : l.flags = pinnedFlags ++ [noTraceFlag]) (D : va_G) (cs : Nat → ClassId) (B : Nat) (dE : Nat × Nat) (lim : Nat × Nat) (M : gMem) (a0 : Nat) (hS : S_Fr_pop cs lim M a0) : cMet l y_Fr_pop (Cond.code y_Fr_pop c_Fr_pop 1 (some .int)) (0) (0) D cs B dE (gA B) lim [.ref a0] M (fun x M' => x = .inl (some (.int ((F_Fr_pop cs M a0).1))) ∧ M' = (F_Fr_pop cs M a0).2) := by
  refine cMet.ofW (by decide) (Nat.le_of_ble_eq_true rfl) (lv0 := [(0, .ref a0)]) rfl ?_
  intro p e s m args below meth c C hE hR0 hle hr hlocks hex hn
  generalize hF : F_Fr_pop cs M a0 = Fv
  unfold F_Fr_pop at hF
  unfold S_Fr_pop at hS
  refine g_aload_n C d_Fr_pop_0 rfl ?_
  obtain ⟨ho1, hS⟩ := hS
  refine c_geti C hE.1 (ci := 10) i_Fr rfl 1 (by decide) (by decide) (by decide) kf_Fr_15 d_Fr_pop_1 ho1 ?_
  refine g_bipush (v := 10) C d_Fr_pop_4 (by decide) ?_
  refine g_icmp_gt C 11 d_Fr_pop_6 (by decide) (fun hc2 => ?_) (fun hc2 => ?_)
  · rw [if_pos hc2] at hF hS
    refine g_aload_n C d_Fr_pop_11 rfl ?_
    refine g_dup C d_Fr_pop_12 rfl ?_
    obtain ⟨ho3, hS⟩ := hS
    refine c_geti C hE.1 (ci := 10) i_Fr rfl 1 (by decide) (by decide) (by decide) kf_Fr_15 d_Fr_pop_13 ho3 ?_
    refine g_iconst (v := 1) C d_Fr_pop_16 (by decide) ?_
    refine g_isub C d_Fr_pop_17 ?_
    refine GW.more (A' := gA B) (fun _ h => h.elim) ?_
    obtain ⟨ho4, hS⟩ := hS
    refine k_put (M0 := M) (M := M) C hE.1 (ci := 10) i_Fr rfl 1 (by decide) (by decide) kf_Fr_15 t_Fr t_Fr_ok n_Fr rfl (nf_i _) d_Fr_pop_18 ho4 ?_
    replace hle := cLe.cP (ci := 10) (a := a0) (k := 1) (v := .int ((cI M a0 1) - 1)) hle
    refine g_aload_n C d_Fr_pop_21 rfl ?_
    obtain ⟨ho5, hS⟩ := hS
    refine c_getq C hE.1 (ci := 10) i_Fr rfl 0 (by decide) (by decide) (by decide) kf_Fr_9 d_Fr_pop_22 ho5 ?_
    refine g_aload_n C d_Fr_pop_25 rfl ?_
    obtain ⟨ho6, hS⟩ := hS
    refine c_geti C hE.1 (ci := 10) i_Fr rfl 1 (by decide) (by decide) (by decide) kf_Fr_15 d_Fr_pop_26 ho6 ?_
    obtain ⟨ha7, hS⟩ := hS
    refine GW.known2 (a := (cQ (cP 10 M a0 1 (.int ((cI M a0 1) - 1))) a0 0).getD 0) ha7.1 ?_
    obtain ⟨hi8, hS⟩ := hS
    refine c_iald C hE.1 d_Fr_pop_29 ha7.2 hi8 ?_
    exact c_iret (M := cP 10 M a0 1 (.int ((cI M a0 1) - 1))) C hr hlocks hle d_Fr_pop_30 (by rw [← hF]; exact ⟨rfl, rfl⟩)
  · rw [if_neg hc2] at hF hS
    refine g_iconst (v := 0) C d_Fr_pop_9 (by decide) ?_
    refine GW.more (A' := gA B) (fun _ h => h.elim) ?_
    exact c_iret (M := M) C hr hlocks hle d_Fr_pop_10 (by rw [← hF]; exact ⟨rfl, rfl⟩)
def F_Th_init (cs : Nat → ClassId) (M : gMem) (a0 : Nat) : gMem := cP 11 (gnw M (1, .inl (cs 0, (10 : Int32).toNatClampNeg, .inl (fun _ => 0))) (10 : Int32).toNatClampNeg) a0 0 (va_rf (some M.2.1))
def S_Th_init (cs : Nat → ClassId) (lim : Nat × Nat) (M : gMem) (a0 : Nat) : Prop := ((¬ (10 : Int32) < 0 ∧ (10 : Int32).toNatClampNeg * 4 ≤ 536870912) ∧ M.2.1 + 1 ≤ lim.1 ∧ M.2.2 + (10 : Int32).toNatClampNeg ≤ lim.2) ∧ ((cOk 11 (gnw M (1, .inl (cs 0, (10 : Int32).toNatClampNeg, .inl (fun _ => 0))) (10 : Int32).toNatClampNeg) a0) ∧ (True))
set_option maxRecDepth 100000 in
set_option maxHeartbeats 4000000 in
theorem cc_Th_init (l : Launch) (hf : l.flags = pinnedFlags ++ [noTraceFlag]) (D : va_G) (cs : Nat → ClassId) (B : Nat) (dE : Nat × Nat) (lim : Nat × Nat) (M : gMem) (a0 : Nat) (hS : S_Th_init cs lim M a0) : cMet l y_Th_init (Cond.code y_Th_init c_Th_init 1 none) (1) (20) D cs B dE (gA B) lim [.ref a0] M (fun x M' => x = .inl none ∧ M' = (F_Th_init cs M a0)) := by
  refine cMet.ofW (by decide) (Nat.le_of_ble_eq_true rfl) (lv0 := [(0, .ref a0)]) rfl ?_
  intro p e s m args below meth c C hE hR0 hle hr hlocks hex hn
  generalize hF : F_Th_init cs M a0 = Fv
  unfold F_Th_init at hF
  unfold S_Th_init at hS
  refine g_aload_n C d_Th_init_0 rfl ?_
  refine g_objInit C km_Th_3 kv_Ob_init kd_Ob_init d_Th_init_1 (Nat.le_of_ble_eq_true rfl) (Nat.le_of_ble_eq_true rfl) ?_
  refine g_aload_n C d_Th_init_4 rfl ?_
  refine g_bipush (v := 10) C d_Th_init_5 (by decide) ?_
  refine GW.more (A' := gA B) (fun _ h => h.elim) ?_
  obtain ⟨hl1, hS⟩ := hS
  refine c_newi (M0 := M) (M := M) C hE.1 ⟨rfl, rfl⟩ hle hl1.1.1 hl1.1.2 d_Th_init_7 hl1.2 (fun hle => ?_)
  obtain ⟨ho3, hS⟩ := hS
  refine GW.eqs (st' := [va_rf (some M.2.1), .ref a0]) rfl ?_
  refine k_putF (M0 := M) (M := gnw M (1, .inl (cs 0, (10 : Int32).toNatClampNeg, .inl (fun _ => 0))) (10 : Int32).toNatClampNeg) C hE.1 (ci := 11) i_Th rfl 0 (by decide) (by decide) kf_Th_9 t_Th t_Th_ok n_Th rfl hn rfl (nf_q _ (Or.inr ⟨_, rfl⟩) _) d_Th_init_9 ho3 ?_
  replace hle := cLe.cP (ci := 11) (a := a0) (k := 0) (v := va_rf (some M.2.1)) hle
  exact c_vret (M := cP 11 (gnw M (1, .inl (cs 0, (10 : Int32).toNatClampNeg, .inl (fun _ => 0))) (10 : Int32).toNatClampNeg) a0 0 (va_rf (some M.2.1))) C hr hlocks hle d_Th_init_12 (by rw [← hF]; exact ⟨rfl, rfl⟩)
def F_Th_make (cs : Nat → ClassId) (M : gMem) (a0 : Nat) (x1 : Int32) : gMem := cP 11 (cP 11 (cP 11 (cP 11 M a0 1 (.int x1)) a0 2 (.int 0)) a0 4 (va_rf (none : Option Nat))) a0 5 (va_rf (none : Option Nat))
def S_Th_make (cs : Nat → ClassId) (lim : Nat × Nat) (M : gMem) (a0 : Nat) (x1 : Int32) : Prop := (cOk 11 M a0) ∧ ((cOk 11 (cP 11 M a0 1 (.int x1)) a0) ∧ ((cOk 11 (cP 11 (cP 11 M a0 1 (.int x1)) a0 2 (.int 0)) a0) ∧ ((cOk 11 (cP 11 (cP 11 (cP 11 M a0 1 (.int x1)) a0 2 (.int 0)) a0 4 (va_rf (none : Option Nat))) a0) ∧ (True))))
set_option maxRecDepth 100000 in
set_option maxHeartbeats 4000000 in
theorem cc_Th_make (l : Launch) (hf : l.flags = pinnedFlags ++ [noTraceFlag]) (D : va_G) (cs : Nat → ClassId) (B : Nat) (dE : Nat × Nat) (lim : Nat × Nat) (M : gMem) (a0 : Nat) (x1 : Int32) (hS : S_Th_make cs lim M a0 x1) : cMet l y_Th_make (Cond.code y_Th_make c_Th_make 2 none) (0) (0) D cs B dE (gA B) lim [.ref a0, .int x1] M (fun x M' => x = .inl none ∧ M' = (F_Th_make cs M a0 x1)) := by
  refine cMet.ofW (by decide) (Nat.le_of_ble_eq_true rfl) (lv0 := [(0, .ref a0), (1, .int x1)]) rfl ?_
  intro p e s m args below meth c C hE hR0 hle hr hlocks hex hn
  generalize hF : F_Th_make cs M a0 x1 = Fv
  unfold F_Th_make at hF
  unfold S_Th_make at hS
  refine g_aload_n C d_Th_make_0 rfl ?_
  refine g_iload_n C d_Th_make_1 rfl ?_
  refine GW.more (A' := gA B) (fun _ h => h.elim) ?_
  obtain ⟨ho1, hS⟩ := hS
  refine k_put (M0 := M) (M := M) C hE.1 (ci := 11) i_Th rfl 1 (by decide) (by decide) kf_Th_15 t_Th t_Th_ok n_Th rfl (nf_i _) d_Th_make_2 ho1 ?_
  replace hle := cLe.cP (ci := 11) (a := a0) (k := 1) (v := .int x1) hle
  refine g_aload_n C d_Th_make_5 rfl ?_
  refine g_iconst (v := 0) C d_Th_make_6 (by decide) ?_
  obtain ⟨ho2, hS⟩ := hS
  refine k_put (M0 := M) (M := cP 11 M a0 1 (.int x1)) C hE.1 (ci := 11) i_Th rfl 2 (by decide) (by decide) kf_Th_19 t_Th t_Th_ok n_Th rfl (nf_z (by decide)) d_Th_make_7 ho2 ?_
  replace hle := cLe.cP (ci := 11) (a := a0) (k := 2) (v := .int 0) hle
  refine g_aload_n C d_Th_make_10 rfl ?_
  refine g_null C d_Th_make_11 ?_
  refine GW.eqs (st' := [va_rf (none : Option Nat), .ref a0]) rfl ?_
  obtain ⟨ho3, hS⟩ := hS
  refine k_put (M0 := M) (M := cP 11 (cP 11 M a0 1 (.int x1)) a0 2 (.int 0)) C hE.1 (ci := 11) i_Th rfl 4 (by decide) (by decide) kf_Th_23 t_Th t_Th_ok n_Th rfl (nf_q _ (Or.inl ⟨_, rfl⟩) _) d_Th_make_12 ho3 ?_
  replace hle := cLe.cP (ci := 11) (a := a0) (k := 4) (v := va_rf (none : Option Nat)) hle
  refine g_aload_n C d_Th_make_15 rfl ?_
  refine g_null C d_Th_make_16 ?_
  refine GW.eqs (st' := [va_rf (none : Option Nat), .ref a0]) rfl ?_
  obtain ⟨ho4, hS⟩ := hS
  refine k_put (M0 := M) (M := cP 11 (cP 11 (cP 11 M a0 1 (.int x1)) a0 2 (.int 0)) a0 4 (va_rf (none : Option Nat))) C hE.1 (ci := 11) i_Th rfl 5 (by decide) (by decide) kf_Th_27 t_Th t_Th_ok n_Th rfl (nf_q _ (Or.inl ⟨_, rfl⟩) _) d_Th_make_17 ho4 ?_
  replace hle := cLe.cP (ci := 11) (a := a0) (k := 5) (v := va_rf (none : Option Nat)) hle
  exact c_vret (M := cP 11 (cP 11 (cP 11 (cP 11 M a0 1 (.int x1)) a0 2 (.int 0)) a0 4 (va_rf (none : Option Nat))) a0 5 (va_rf (none : Option Nat))) C hr hlocks hle d_Th_make_20 (by rw [← hF]; exact ⟨rfl, rfl⟩)
def F_Th_hold (cs : Nat → ClassId) (M : gMem) (a0 : Nat) (x1 : Option Nat) (x2 : Option Nat) (x3 : Int32) : gMem := cP 11 (cP 11 (cP 11 (cP 11 (cP 11 M a0 2 (.int 1)) a0 3 (.int 0)) a0 4 (va_rf x1)) a0 5 (va_rf x2)) a0 6 (.int x3)
def S_Th_hold (cs : Nat → ClassId) (lim : Nat × Nat) (M : gMem) (a0 : Nat) (x1 : Option Nat) (x2 : Option Nat) (x3 : Int32) : Prop := (cOk 11 M a0) ∧ ((cOk 11 (cP 11 M a0 2 (.int 1)) a0) ∧ ((cOk 11 (cP 11 (cP 11 M a0 2 (.int 1)) a0 3 (.int 0)) a0) ∧ ((cOk 11 (cP 11 (cP 11 (cP 11 M a0 2 (.int 1)) a0 3 (.int 0)) a0 4 (va_rf x1)) a0) ∧ ((cOk 11 (cP 11 (cP 11 (cP 11 (cP 11 M a0 2 (.int 1)) a0 3 (.int 0)) a0 4 (va_rf x1)) a0 5 (va_rf x2)) a0) ∧ (True)))))
set_option maxRecDepth 100000 in
set_option maxHeartbeats 4000000 in
theorem cc_Th_hold (l : Launch) (hf : l.flags = pinnedFlags ++ [noTraceFlag]) (D : va_G) (cs : Nat → ClassId) (B : Nat) (dE : Nat × Nat) (lim : Nat × Nat) (M : gMem) (a0 : Nat) (x1 : Option Nat) (x2 : Option Nat) (x3 : Int32) (hS : S_Th_hold cs lim M a0 x1 x2 x3) : cMet l y_Th_hold (Cond.code y_Th_hold c_Th_hold 4 none) (0) (0) D cs B dE (gA B) lim [.ref a0, va_rf x1, va_rf x2, .int x3] M (fun x M' => x = .inl none ∧ M' = (F_Th_hold cs M a0 x1 x2 x3)) := by
  refine cMet.ofW (by decide) (by cases x1 <;> cases x2 <;> exact Nat.le_of_ble_eq_true rfl) (lv0 := [(0, .ref a0), (1, va_rf x1), (2, va_rf x2), (3, .int x3)]) (by cases x1 <;> cases x2 <;> rfl) ?_
  intro p e s m args below meth c C hE hR0 hle hr hlocks hex hn
  generalize hF : F_Th_hold cs M a0 x1 x2 x3 = Fv
  unfold F_Th_hold at hF
  unfold S_Th_hold at hS
  refine g_aload_n C d_Th_hold_0 rfl ?_
  refine g_iconst (v := 1) C d_Th_hold_1 (by decide) ?_
  refine GW.more (A' := gA B) (fun _ h => h.elim) ?_
  obtain ⟨ho1, hS⟩ := hS
  refine k_put (M0 := M) (M := M) C hE.1 (ci := 11) i_Th rfl 2 (by decide) (by decide) kf_Th_19 t_Th t_Th_ok n_Th rfl (nf_z (by decide)) d_Th_hold_2 ho1 ?_
  replace hle := cLe.cP (ci := 11) (a := a0) (k := 2) (v := .int 1) hle
  refine g_aload_n C d_Th_hold_5 rfl ?_
  refine g_iconst (v := 0) C d_Th_hold_6 (by decide) ?_
  obtain ⟨ho2, hS⟩ := hS
  refine k_put (M0 := M) (M := cP 11 M a0 2 (.int 1)) C hE.1 (ci := 11) i_Th rfl 3 (by decide) (by decide) kf_Th_30 t_Th t_Th_ok n_Th rfl (nf_z (by decide)) d_Th_hold_7 ho2 ?_
  replace hle := cLe.cP (ci := 11) (a := a0) (k := 3) (v := .int 0) hle
  refine g_aload_n C d_Th_hold_10 rfl ?_
  refine q_aload_n (r := x1) C d_Th_hold_11 rfl ?_
  obtain ⟨ho3, hS⟩ := hS
  refine k_put (M0 := M) (M := cP 11 (cP 11 M a0 2 (.int 1)) a0 3 (.int 0)) C hE.1 (ci := 11) i_Th rfl 4 (by decide) (by decide) kf_Th_23 t_Th t_Th_ok n_Th rfl (nf_q _ (Or.inl ⟨_, rfl⟩) _) d_Th_hold_12 ho3 ?_
  replace hle := cLe.cP (ci := 11) (a := a0) (k := 4) (v := va_rf x1) hle
  refine g_aload_n C d_Th_hold_15 rfl ?_
  refine q_aload_n (r := x2) C d_Th_hold_16 rfl ?_
  obtain ⟨ho4, hS⟩ := hS
  refine k_put (M0 := M) (M := cP 11 (cP 11 (cP 11 M a0 2 (.int 1)) a0 3 (.int 0)) a0 4 (va_rf x1)) C hE.1 (ci := 11) i_Th rfl 5 (by decide) (by decide) kf_Th_27 t_Th t_Th_ok n_Th rfl (nf_q _ (Or.inl ⟨_, rfl⟩) _) d_Th_hold_17 ho4 ?_
  replace hle := cLe.cP (ci := 11) (a := a0) (k := 5) (v := va_rf x2) hle
  refine g_aload_n C d_Th_hold_20 rfl ?_
  refine g_iload_n C d_Th_hold_21 rfl ?_
  obtain ⟨ho5, hS⟩ := hS
  refine k_put (M0 := M) (M := cP 11 (cP 11 (cP 11 (cP 11 M a0 2 (.int 1)) a0 3 (.int 0)) a0 4 (va_rf x1)) a0 5 (va_rf x2)) C hE.1 (ci := 11) i_Th rfl 6 (by decide) (by decide) kf_Th_33 t_Th t_Th_ok n_Th rfl (nf_i _) d_Th_hold_22 ho5 ?_
  replace hle := cLe.cP (ci := 11) (a := a0) (k := 6) (v := .int x3) hle
  exact c_vret (M := cP 11 (cP 11 (cP 11 (cP 11 (cP 11 M a0 2 (.int 1)) a0 3 (.int 0)) a0 4 (va_rf x1)) a0 5 (va_rf x2)) a0 6 (.int x3)) C hr hlocks hle d_Th_hold_25 (by rw [← hF]; exact ⟨rfl, rfl⟩)
def F_Th_give (cs : Nat → ClassId) (M : gMem) (a0 : Nat) (x1 : Int32) (x2 : Int32) : gMem := if x1 < 0 then (M) else (if 10 ≤ x1 then (M) else (aPi (cs 0) M ((cQ M a0 0).getD 0) x1.toNatClampNeg x2))
def S_Th_give (cs : Nat → ClassId) (lim : Nat × Nat) (M : gMem) (a0 : Nat) (x1 : Int32) (x2 : Int32) : Prop := if x1 < 0 then (True) else (if 10 ≤ x1 then (True) else ((cOk 11 M a0) ∧ ((cQ M a0 0 = some ((cQ M a0 0).getD 0) ∧ aIk (cs 0) M ((cQ M a0 0).getD 0)) ∧ ((vp_in x1 (aL M ((cQ M a0 0).getD 0))) ∧ (True)))))
set_option maxRecDepth 100000 in
set_option maxHeartbeats 4000000 in
theorem cc_Th_give (l : Launch) (hf : l.flags = pinnedFlags ++ [noTraceFlag]) (D : va_G) (cs : Nat → ClassId) (B : Nat) (dE : Nat × Nat) (lim : Nat × Nat) (M : gMem) (a0 : Nat) (x1 : Int32) (x2 : Int32) (hS : S_Th_give cs lim M a0 x1 x2) : cMet l y_Th_give (Cond.code y_Th_give c_Th_give 3 none) (0) (0) D cs B dE (gA B) lim [.ref a0, .int x1, .int x2] M (fun x M' => x = .inl none ∧ M' = (F_Th_give cs M a0 x1 x2)) := by
  refine cMet.ofW (by decide) (Nat.le_of_ble_eq_true rfl) (lv0 := [(0, .ref a0), (1, .int x1), (2, .int x2)]) rfl ?_
  intro p e s m args below meth c C hE hR0 hle hr hlocks hex hn
  generalize hF : F_Th_give cs M a0 x1 x2 = Fv
  unfold F_Th_give at hF
  unfold S_Th_give at hS
  refine g_iload_n C d_Th_give_0 rfl ?_
  refine g_if_lt C 17 d_Th_give_1 (by decide) (fun hc1 => ?_) (fun hc1 => ?_)
  · rw [if_pos hc1] at hF hS
    refine GW.more (A' := gA B) (fun _ h => h.elim) ?_
    exact c_vret (M := M) C hr hlocks hle d_Th_give_17 (by rw [← hF]; exact ⟨rfl, rfl⟩)
  · rw [if_neg hc1] at hF hS
    refine g_iload_n C d_Th_give_4 rfl ?_
    refine g_bipush (v := 10) C d_Th_give_5 (by decide) ?_
    refine g_icmp_ge C 17 d_Th_give_7 (by decide) (fun hc2 => ?_) (fun hc2 => ?_)
    · rw [if_pos hc2] at hF hS
      refine GW.more (A' := gA B) (fun _ h => h.elim) ?_
      exact c_vret (M := M) C hr hlocks hle d_Th_give_17 (by rw [← hF]; exact ⟨rfl, rfl⟩)
    · rw [if_neg hc2] at hF hS
      refine g_aload_n C d_Th_give_10 rfl ?_
      obtain ⟨ho3, hS⟩ := hS
      refine c_getq C hE.1 (ci := 11) i_Th rfl 0 (by decide) (by decide) (by decide) kf_Th_9 d_Th_give_11 ho3 ?_
      refine g_iload_n C d_Th_give_14 rfl ?_
      refine g_iload_n C d_Th_give_15 rfl ?_
      refine GW.more (A' := gA B) (fun _ h => h.elim) ?_
      obtain ⟨ha4, hS⟩ := hS
      refine GW.known3 (a := (cQ M a0 0).getD 0) ha4.1 ?_
      obtain ⟨hi5, hS⟩ := hS
      refine k_iast (M0 := M) (M := M) C hE.1 d_Th_give_16 ha4.2 hi5 ?_
      replace hle := cLe.aPi (cA := cs 0) (a := (cQ M a0 0).getD 0) (i := x1.toNatClampNeg) (x := x2) hle
      exact c_vret (M := aPi (cs 0) M ((cQ M a0 0).getD 0) x1.toNatClampNeg x2) C hr hlocks hle d_Th_give_17 (by rw [← hF]; exact ⟨rfl, rfl⟩)
def F_AbC_init (cs : Nat → ClassId) (M : gMem) (a0 : Nat) : Unit := ()
def S_AbC_init (cs : Nat → ClassId) (lim : Nat × Nat) (M : gMem) (a0 : Nat) : Prop := True
set_option maxRecDepth 100000 in
set_option maxHeartbeats 4000000 in
theorem cc_AbC_init (l : Launch) (hf : l.flags = pinnedFlags ++ [noTraceFlag]) (D : va_G) (cs : Nat → ClassId) (B : Nat) (dE : Nat × Nat) (lim : Nat × Nat) (M : gMem) (a0 : Nat) (hS : S_AbC_init cs lim M a0) : cMet l y_AbC_init (Cond.code y_AbC_init c_AbC_init 1 none) (1) (20) D cs B dE (fun _ => False) lim [.ref a0] M (fun x M' => x = .inl none ∧ M' = M) := by
  refine cMet.ofW (by decide) (Nat.le_of_ble_eq_true rfl) (lv0 := [(0, .ref a0)]) rfl ?_
  intro p e s m args below meth c C hE hR0 hle hr hlocks hex hn
  generalize hF : F_AbC_init cs M a0 = Fv
  unfold F_AbC_init at hF
  unfold S_AbC_init at hS
  refine g_aload_n C d_AbC_init_0 rfl ?_
  refine g_objInit C km_AbC_1 kv_Ob_init kd_Ob_init d_AbC_init_1 (Nat.le_of_ble_eq_true rfl) (Nat.le_of_ble_eq_true rfl) ?_
  exact c_vret (M := M) C hr hlocks hle d_AbC_init_4 ⟨rfl, rfl⟩
def F_AbL_init (cs : Nat → ClassId) (M : gMem) (a0 : Nat) : gMem := mbind (F_AbC_init cs M a0 ) (fun w2 => cP 13 M a0 2 (.int 0))
def S_AbL_init (cs : Nat → ClassId) (lim : Nat × Nat) (M : gMem) (a0 : Nat) : Prop := (S_AbC_init cs lim M a0 ) ∧ (mbind (F_AbC_init cs M a0 ) (fun w2 => (cOk 13 M a0) ∧ (True)))
set_option maxRecDepth 100000 in
set_option maxHeartbeats 4000000 in
theorem cc_AbL_init (l : Launch) (hf : l.flags = pinnedFlags ++ [noTraceFlag]) (D : va_G) (cs : Nat → ClassId) (B : Nat) (dE : Nat × Nat) (lim : Nat × Nat) (M : gMem) (a0 : Nat) (hS : S_AbL_init cs lim M a0) : cMet l y_AbL_init (Cond.code y_AbL_init c_AbL_init 1 none) (2) (40) D cs B dE (gA B) lim [.ref a0] M (fun x M' => x = .inl none ∧ M' = (F_AbL_init cs M a0)) := by
  refine cMet.ofW (by decide) (Nat.le_of_ble_eq_true rfl) (lv0 := [(0, .ref a0)]) rfl ?_
  intro p e s m args below meth c C hE hR0 hle hr hlocks hex hn
  generalize hF : F_AbL_init cs M a0 = Fv
  unfold F_AbL_init at hF
  unfold S_AbL_init at hS
  refine g_aload_n C d_AbL_init_0 rfl ?_
  obtain ⟨hs1, hS⟩ := hS
  refine c_call (av := [.ref a0]) (rest := []) C hE (fun _ h => h.elim) ⟨rfl, rfl⟩ hle (cc_AbC_init l hf D cs B dE lim _ a0  hs1) (fun _ h => h.elim) kd_AbC_init ki_AbC (Nat.le_of_ble_eq_true rfl) (Nat.le_of_ble_eq_true rfl) d_AbL_init_1 (Nat.le_of_ble_eq_true rfl) (c_fI (n := 0) C rfl km_AbL_1 kv_AbC_init kd_AbC_init ⟨by decide, by decide, by decide⟩ rfl rfl d_AbL_init_1) (fun v1 M1 hv hle => ?_) (fun E1 M1 hv hle => ?_)
  · rw [mbind_eq] at hF hS
    obtain ⟨hx, hM1⟩ := hv
    have hM2 := hM1.symm
    subst hM2
    generalize hq_w2 : F_AbC_init cs M a0  = w2 at hF hS hx hle ⊢
    cases hx
    refine GW.eqs (st' := []) rfl ?_
    refine g_aload_n C d_AbL_init_4 rfl ?_
    refine g_iconst (v := 0) C d_AbL_init_5 (by decide) ?_
    refine GW.more (A' := gA B) (fun _ h => h.elim) ?_
    obtain ⟨ho3, hS⟩ := hS
    refine k_put (M0 := M) (M := M) C hE.1 (ci := 13) i_AL rfl 2 (by decide) (by decide) kf_AbL_7 t_AL t_AL_ok n_AL rfl (nf_i _) d_AbL_init_6 ho3 ?_
    replace hle := cLe.cP (ci := 13) (a := a0) (k := 2) (v := .int 0) hle
    exact c_vret (M := cP 13 M a0 2 (.int 0)) C hr hlocks hle d_AbL_init_9 (by rw [← hF]; exact ⟨rfl, rfl⟩)
  · cases hv.1
def F_AL_init (cs : Nat → ClassId) (dE : Nat × Nat) (M : gMem) (a0 : Nat) : gMem := mbind (F_AbL_init cs M a0 ) (fun w2 => cP 13 w2 a0 0 (va_rf (some dE.1)))
def S_AL_init (cs : Nat → ClassId) (lim : Nat × Nat) (dE : Nat × Nat) (M : gMem) (a0 : Nat) : Prop := (S_AbL_init cs lim M a0 ) ∧ (mbind (F_AbL_init cs M a0 ) (fun w2 => (cOk 13 w2 a0) ∧ (True)))
set_option maxRecDepth 100000 in
set_option maxHeartbeats 4000000 in
theorem cc_AL_init (l : Launch) (hf : l.flags = pinnedFlags ++ [noTraceFlag]) (D : va_G) (cs : Nat → ClassId) (B : Nat) (dE : Nat × Nat) (lim : Nat × Nat) (M : gMem) (a0 : Nat) (hS : S_AL_init cs lim dE M a0) : cMet l y_AL_init (Cond.code y_AL_init c_AL_init 1 none) (3) (60) D cs B dE (gA B) lim [.ref a0] M (fun x M' => x = .inl none ∧ M' = (F_AL_init cs dE M a0)) := by
  refine cMet.ofW (by decide) (Nat.le_of_ble_eq_true rfl) (lv0 := [(0, .ref a0)]) rfl ?_
  intro p e s m args below meth c C hE hR0 hle hr hlocks hex hn
  generalize hF : F_AL_init cs dE M a0 = Fv
  unfold F_AL_init at hF
  unfold S_AL_init at hS
  refine g_aload_n C d_AL_init_0 rfl ?_
  refine GW.more (A' := gA B) (fun _ h => h.elim) ?_
  obtain ⟨hs1, hS⟩ := hS
  refine c_call (av := [.ref a0]) (rest := []) C hE (fun _ h => h) ⟨rfl, rfl⟩ hle (cc_AbL_init l hf D cs B dE lim _ a0  hs1) (fun _ h => h) kd_AbL_init ki_AbL (Nat.le_of_ble_eq_true rfl) (Nat.le_of_ble_eq_true rfl) d_AL_init_1 (Nat.le_of_ble_eq_true rfl) (c_fI (n := 0) C rfl km_AL_1 kv_AbL_init kd_AbL_init ⟨by decide, by decide, by decide⟩ rfl rfl d_AL_init_1) (fun v1 M1 hv hle => ?_) (fun E1 M1 hv hle => ?_)
  · rw [mbind_eq] at hF hS
    obtain ⟨hx, hM1⟩ := hv
    have hM2 := hM1.symm
    subst hM2
    generalize hq_w2 : F_AbL_init cs M a0  = w2 at hF hS hx hle ⊢
    cases hx
    refine GW.eqs (st' := []) rfl ?_
    refine g_aload_n C d_AL_init_4 rfl ?_
    refine c_gets C hE (fun _ h => h) kf_AL_39 d_AL_init_5 ?_
    obtain ⟨ho3, hS⟩ := hS
    refine GW.eqs (st' := [va_rf (some dE.1), .ref a0]) rfl ?_
    refine k_put (M0 := M) (M := w2) C hE.1 (ci := 13) i_AL rfl 0 (by decide) (by decide) kf_AL_9 t_AL t_AL_ok n_AL rfl (nf_q _ (Or.inr ⟨_, rfl⟩) _) d_AL_init_8 ho3 ?_
    replace hle := cLe.cP (ci := 13) (a := a0) (k := 0) (v := va_rf (some dE.1)) hle
    exact c_vret (M := cP 13 w2 a0 0 (va_rf (some dE.1))) C hr hlocks hle d_AL_init_11 (by rw [← hF]; exact ⟨rfl, rfl⟩)
  · cases hv.1
def F_AL_size (cs : Nat → ClassId) (dE : Nat × Nat) (M : gMem) (a0 : Nat) : Int32 := cI M a0 1
def S_AL_size (cs : Nat → ClassId) (lim : Nat × Nat) (dE : Nat × Nat) (M : gMem) (a0 : Nat) : Prop := (cOk 13 M a0) ∧ (True)
set_option maxRecDepth 100000 in
set_option maxHeartbeats 4000000 in
theorem cc_AL_size (l : Launch) (hf : l.flags = pinnedFlags ++ [noTraceFlag]) (D : va_G) (cs : Nat → ClassId) (B : Nat) (dE : Nat × Nat) (lim : Nat × Nat) (M : gMem) (a0 : Nat) (hS : S_AL_size cs lim dE M a0) : cMet l y_AL_size (Cond.code y_AL_size c_AL_size 1 (some .int)) (0) (0) D cs B dE (fun _ => False) lim [.ref a0] M (fun x M' => x = .inl (some (.int (F_AL_size cs dE M a0))) ∧ M' = M) := by
  refine cMet.ofW (by decide) (Nat.le_of_ble_eq_true rfl) (lv0 := [(0, .ref a0)]) rfl ?_
  intro p e s m args below meth c C hE hR0 hle hr hlocks hex hn
  generalize hF : F_AL_size cs dE M a0 = Fv
  unfold F_AL_size at hF
  unfold S_AL_size at hS
  refine g_aload_n C d_AL_size_0 rfl ?_
  obtain ⟨ho1, hS⟩ := hS
  refine c_geti C hE.1 (ci := 13) i_AL rfl 1 (by decide) (by decide) (by decide) kf_AL_48 d_AL_size_1 ho1 ?_
  exact c_iret (M := M) C hr hlocks hle d_AL_size_4 (by rw [← hF]; exact ⟨rfl, rfl⟩)
def F_ArraysSupport_newLength (cs : Nat → ClassId) (M : gMem) (x0 : Int32) (x1 : Int32) (x2 : Int32) : Int32 := mbind ((if x1 < x2 then x2 else x1 : Int32)) (fun w1 => if (x0 + w1) ≤ (0 : Int32) then (0) else (if 2147483639 < (x0 + w1) then (0) else (x0 + w1)))
def S_ArraysSupport_newLength (cs : Nat → ClassId) (lim : Nat × Nat) (M : gMem) (x0 : Int32) (x1 : Int32) (x2 : Int32) : Prop := mbind ((if x1 < x2 then x2 else x1 : Int32)) (fun w1 => if (x0 + w1) ≤ (0 : Int32) then (False) else (if 2147483639 < (x0 + w1) then (False) else (True)))
set_option maxRecDepth 100000 in
set_option maxHeartbeats 4000000 in
theorem cc_ArraysSupport_newLength (l : Launch) (hf : l.flags = pinnedFlags ++ [noTraceFlag]) (D : va_G) (cs : Nat → ClassId) (B : Nat) (dE : Nat × Nat) (lim : Nat × Nat) (M : gMem) (x0 : Int32) (x1 : Int32) (x2 : Int32) (hS : S_ArraysSupport_newLength cs lim M x0 x1 x2) : cMet l y_ArraysSupport_newLength (Cond.code y_ArraysSupport_newLength c_ArraysSupport_newLength 4 (some .int)) (1) (30) D cs B dE (fun _ => False) lim [.int x0, .int x1, .int x2] M (fun x M' => x = .inl (some (.int (F_ArraysSupport_newLength cs M x0 x1 x2))) ∧ M' = M) := by
  refine cMet.ofW (by decide) (Nat.le_of_ble_eq_true rfl) (lv0 := [(0, .int x0), (1, .int x1), (2, .int x2)]) rfl ?_
  intro p e s m args below meth c C hE hR0 hle hr hlocks hex hn
  generalize hF : F_ArraysSupport_newLength cs M x0 x1 x2 = Fv
  unfold F_ArraysSupport_newLength at hF
  unfold S_ArraysSupport_newLength at hS
  refine g_iload_n C d_ArraysSupport_newLength_0 rfl ?_
  refine g_iload_n C d_ArraysSupport_newLength_1 rfl ?_
  refine g_iload_n C d_ArraysSupport_newLength_2 rfl ?_
  refine c_mmax (M0 := M) (M := M) C ⟨rfl, rfl⟩ hle km_ArraysSupport_194 ks_Mt_max ki_Mt kx_mmax d_ArraysSupport_newLength_3 (Nat.le_of_ble_eq_true rfl) (Nat.le_of_ble_eq_true rfl) ?_
  rw [mbind_eq] at hF hS
  generalize (if x1 < x2 then x2 else x1 : Int32) = w1 at hF hS ⊢
  refine g_iadd C d_ArraysSupport_newLength_6 ?_
  refine g_istore_n (lv' := [(3, .int (x0 + w1)), (0, .int x0), (1, .int x1), (2, .int x2)]) C d_ArraysSupport_newLength_7 (by decide) rfl ?_
  refine g_iconst (v := 0) C d_ArraysSupport_newLength_8 (by decide) ?_
  refine g_iload_n C d_ArraysSupport_newLength_9 rfl ?_
  refine g_icmp_ge C 21 d_ArraysSupport_newLength_10 (by decide) (fun hc2 => ?_) (fun hc2 => ?_)
  · rw [if_pos hc2] at hF hS
    exact hS.elim
  · rw [if_neg hc2] at hF hS
    refine g_iload_n C d_ArraysSupport_newLength_13 rfl ?_
    refine g_ldc C kk_ArraysSupport_200 d_ArraysSupport_newLength_14 ?_
    refine g_icmp_gt C 21 d_ArraysSupport_newLength_16 (by decide) (fun hc3 => ?_) (fun hc3 => ?_)
    · rw [if_pos hc3] at hF hS
      exact hS.elim
    · rw [if_neg hc3] at hF hS
      refine g_iload_n C d_ArraysSupport_newLength_19 rfl ?_
      exact c_iret (M := M) C hr hlocks hle d_ArraysSupport_newLength_20 (by rw [← hF]; exact ⟨rfl, rfl⟩)
def F_Ar_copyOf3 (cs : Nat → ClassId) (dE : Nat × Nat) (M : gMem) (x0 : Option Nat) (x1 : Int32) (x2 : Option Nat) : Option Nat × gMem := if x2 = some dE.2 then (mbind ((if x1 < (nI (aL (gnw M (1, .inl (cs 5, x1.toNatClampNeg, .inr (.inr (.inr (.inr (fun _ => none)))))) x1.toNatClampNeg) (x0.getD 0))) then x1 else nI (aL (gnw M (1, .inl (cs 5, x1.toNatClampNeg, .inr (.inr (.inr (.inr (fun _ => none)))))) x1.toNatClampNeg) (x0.getD 0)) : Int32)) (fun w5 => (some M.2.1, aCq (cs 5) (gnw M (1, .inl (cs 5, x1.toNatClampNeg, .inr (.inr (.inr (.inr (fun _ => none)))))) x1.toNatClampNeg) (x0.getD 0) M.2.1 (0 : Int32).toNatClampNeg (0 : Int32).toNatClampNeg w5.toNatClampNeg))) else ((none, M))
def S_Ar_copyOf3 (cs : Nat → ClassId) (lim : Nat × Nat) (dE : Nat × Nat) (M : gMem) (x0 : Option Nat) (x1 : Int32) (x2 : Option Nat) : Prop := if x2 = some dE.2 then (((¬ x1 < 0 ∧ x1.toNatClampNeg * 4 ≤ 536870912) ∧ M.2.1 + 1 ≤ lim.1 ∧ M.2.2 + x1.toNatClampNeg ≤ lim.2) ∧ ((x0 = some (x0.getD 0) ∧ oOk cs dE (gnw M (1, .inl (cs 5, x1.toNatClampNeg, .inr (.inr (.inr (.inr (fun _ => none)))))) x1.toNatClampNeg) (x0.getD 0)) ∧ (mbind ((if x1 < (nI (aL (gnw M (1, .inl (cs 5, x1.toNatClampNeg, .inr (.inr (.inr (.inr (fun _ => none)))))) x1.toNatClampNeg) (x0.getD 0))) then x1 else nI (aL (gnw M (1, .inl (cs 5, x1.toNatClampNeg, .inr (.inr (.inr (.inr (fun _ => none)))))) x1.toNatClampNeg) (x0.getD 0)) : Int32)) (fun w5 => (x0 = some (x0.getD 0) ∧ aQk (cs 5) (gnw M (1, .inl (cs 5, x1.toNatClampNeg, .inr (.inr (.inr (.inr (fun _ => none)))))) x1.toNatClampNeg) (x0.getD 0)) ∧ ((aQk (cs 5) (gnw M (1, .inl (cs 5, x1.toNatClampNeg, .inr (.inr (.inr (.inr (fun _ => none)))))) x1.toNatClampNeg) M.2.1) ∧ ((oEl (gnw M (1, .inl (cs 5, x1.toNatClampNeg, .inr (.inr (.inr (.inr (fun _ => none)))))) x1.toNatClampNeg) (x0.getD 0)) ∧ (((¬ (0 : Int32) < 0 ∧ ¬ (0 : Int32) < 0 ∧ ¬ w5 < 0) ∧ (0 : Int32).toNatClampNeg + w5.toNatClampNeg ≤ aL (gnw M (1, .inl (cs 5, x1.toNatClampNeg, .inr (.inr (.inr (.inr (fun _ => none)))))) x1.toNatClampNeg) (x0.getD 0) ∧ (0 : Int32).toNatClampNeg + w5.toNatClampNeg ≤ aL (gnw M (1, .inl (cs 5, x1.toNatClampNeg, .inr (.inr (.inr (.inr (fun _ => none)))))) x1.toNatClampNeg) M.2.1) ∧ (True)))))))) else (False)
set_option maxRecDepth 100000 in
set_option maxHeartbeats 4000000 in
theorem cc_Ar_copyOf3 (l : Launch) (hf : l.flags = pinnedFlags ++ [noTraceFlag]) (D : va_G) (cs : Nat → ClassId) (B : Nat) (dE : Nat × Nat) (lim : Nat × Nat) (M : gMem) (x0 : Option Nat) (x1 : Int32) (x2 : Option Nat) (hS : S_Ar_copyOf3 cs lim dE M x0 x1 x2) : cMet l y_Ar_copyOf3 (Cond.code y_Ar_copyOf3 c_Ar_copyOf3 4 (some (.array (.object "java/lang/Object")))) (1) (60) D cs B dE (gA B) lim [va_rf x0, .int x1, va_rf x2] M (fun x M' => x = .inl (some (va_rf ((F_Ar_copyOf3 cs dE M x0 x1 x2).1))) ∧ M' = (F_Ar_copyOf3 cs dE M x0 x1 x2).2) := by
  refine cMet.ofW (by decide) (by cases x0 <;> cases x2 <;> exact Nat.le_of_ble_eq_true rfl) (lv0 := [(0, va_rf x0), (1, .int x1), (2, va_rf x2)]) (by cases x0 <;> cases x2 <;> rfl) ?_
  intro p e s m args below meth c C hE hR0 hle hr hlocks hex hn
  generalize hF : F_Ar_copyOf3 cs dE M x0 x1 x2 = Fv
  unfold F_Ar_copyOf3 at hF
  unfold S_Ar_copyOf3 at hS
  refine q_aload_n (r := x2) C d_Ar_copyOf3_0 rfl ?_
  refine c_ldcM C hE kc_Ar_110 d_Ar_copyOf3_1 ?_
  refine GW.eqs (st' := [va_rf (some dE.2), va_rf x2]) rfl ?_
  refine g_acmp_ne C 13 d_Ar_copyOf3_3 (by decide) (fun hc1 => ?_) (fun hc1 => ?_)
  · rw [if_neg hc1] at hF hS
    exact hS.elim
  · rw [if_pos hc1] at hF hS
    refine g_iload_n C d_Ar_copyOf3_6 rfl ?_
    refine GW.more (A' := gA B) (fun _ h => h.elim) ?_
    obtain ⟨hl2, hS⟩ := hS
    refine c_newq (M0 := M) (M := M) C hE.1 ⟨rfl, rfl⟩ hle 5 rfl kc_Ar_2 (gE_ao hE ko_Ob) hl2.1.1 hl2.1.2 d_Ar_copyOf3_7 hl2.2 (fun hle => ?_)
    refine g_goto C 24 d_Ar_copyOf3_10 (by decide) ?_
    refine g_astore_n (lv' := [(3, .ref M.2.1), (0, va_rf x0), (1, .int x1), (2, va_rf x2)]) C d_Ar_copyOf3_24 (by decide) (by first | rfl | (simp only [lvs, List.filter, rf_cat]; rfl) | simp [lvs, List.filter, rf_cat]) ?_
    refine q_aload_n (r := x0) C d_Ar_copyOf3_25 rfl ?_
    refine g_iconst (v := 0) C d_Ar_copyOf3_26 (by decide) ?_
    refine g_aload_n C d_Ar_copyOf3_27 rfl ?_
    refine g_iconst (v := 0) C d_Ar_copyOf3_28 (by decide) ?_
    refine q_aload_n (r := x0) C d_Ar_copyOf3_29 rfl ?_
    obtain ⟨ha4, hS⟩ := hS
    refine GW.known1 (a := x0.getD 0) ha4.1 ?_
    refine c_alenO C hE (fun _ h => h) d_Ar_copyOf3_30 ha4.2 ?_
    refine g_iload_n C d_Ar_copyOf3_31 rfl ?_
    refine c_mmin (M0 := M) (M := gnw M (1, .inl (cs 5, x1.toNatClampNeg, .inr (.inr (.inr (.inr (fun _ => none)))))) x1.toNatClampNeg) C ⟨rfl, rfl⟩ hle km_Ar_304 ks_Mt_min ki_Mt kx_mmin d_Ar_copyOf3_32 (Nat.le_of_ble_eq_true rfl) (by simp only [List.map_cons, List.map_nil, rf_cat, List.sum_cons, List.sum_nil]; exact Nat.le_of_ble_eq_true rfl) ?_
    rw [mbind_eq] at hF hS
    generalize (if x1 < (nI (aL (gnw M (1, .inl (cs 5, x1.toNatClampNeg, .inr (.inr (.inr (.inr (fun _ => none)))))) x1.toNatClampNeg) (x0.getD 0))) then x1 else nI (aL (gnw M (1, .inl (cs 5, x1.toNatClampNeg, .inr (.inr (.inr (.inr (fun _ => none)))))) x1.toNatClampNeg) (x0.getD 0)) : Int32) = w5 at hF hS ⊢
    obtain ⟨ha6, hS⟩ := hS
    refine GW.known5 (a := x0.getD 0) ha6.1 ?_
    obtain ⟨ha7, hS⟩ := hS
    obtain ⟨hel8, hS⟩ := hS
    obtain ⟨hy9, hS⟩ := hS
    refine k_copyq (M0 := M) (M := gnw M (1, .inl (cs 5, x1.toNatClampNeg, .inr (.inr (.inr (.inr (fun _ => none)))))) x1.toNatClampNeg) C hE km_Ar_150 kt_Sy_arraycopy_x584 ks_Sy_arraycopy_x583 ki_Sy d_Ar_copyOf3_35 ha6.2 hel8 ha7 hy9 (Nat.le_of_ble_eq_true rfl) (Nat.le_of_ble_eq_true rfl) ?_
    replace hle := cLe.aCq (cA := cs 5) (a0 := x0.getD 0) (a := M.2.1) (sp := (0 : Int32).toNatClampNeg) (dp := (0 : Int32).toNatClampNeg) (n := w5.toNatClampNeg) hle
    refine g_aload_n C d_Ar_copyOf3_38 rfl ?_
    refine GW.eqs (st' := [va_rf (some M.2.1)]) rfl ?_
    exact c_aret (M := aCq (cs 5) (gnw M (1, .inl (cs 5, x1.toNatClampNeg, .inr (.inr (.inr (.inr (fun _ => none)))))) x1.toNatClampNeg) (x0.getD 0) M.2.1 (0 : Int32).toNatClampNeg (0 : Int32).toNatClampNeg w5.toNatClampNeg) C hr (Or.inr ⟨_, rfl⟩) hlocks hle d_Ar_copyOf3_39 (by rw [← hF]; exact ⟨rfl, rfl⟩)
